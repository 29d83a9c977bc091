theorem dX0_init_0 : decode cX0_init 0 = .ok (.aload_n 0, 1) := by decide +kernel
theorem dX0_init_1 : decode cX0_init 1 = .ok (.invokespecial 1, 3) := by decide +kernel
theorem dX0_init_4 : decode cX0_init 4 = .ok (.return_, 1) := by decide +kernel
theorem dX0_ofCell_0 : decode cX0_ofCell 0 = .ok (.iload_n 1, 1) := by decide +kernel
theorem dX0_ofCell_1 : decode cX0_ofCell 1 = .ok (.invokestatic 7, 3) := by decide +kernel
theorem dX0_ofCell_4 : decode cX0_ofCell 4 = .ok (.ifCond .eq 7, 3) := by decide +kernel
theorem dX0_ofCell_7 : decode cX0_ofCell 7 = .ok (.iconst 0, 1) := by decide +kernel
theorem dX0_ofCell_8 : decode cX0_ofCell 8 = .ok (.goto 9, 3) := by decide +kernel
theorem dX0_ofCell_11 : decode cX0_ofCell 11 = .ok (.aload_n 0, 1) := by decide +kernel
theorem dX0_ofCell_12 : decode cX0_ofCell 12 = .ok (.iload_n 1, 1) := by decide +kernel
theorem dX0_ofCell_13 : decode cX0_ofCell 13 = .ok (.iload_n 2, 1) := by decide +kernel
theorem dX0_ofCell_14 : decode cX0_ofCell 14 = .ok (.invokespecial 13, 3) := by decide +kernel
theorem dX0_ofCell_17 : decode cX0_ofCell 17 = .ok (.ireturn, 1) := by decide +kernel
theorem dX1_init_0 : decode cX1_init 0 = .ok (.aload_n 0, 1) := by decide +kernel
theorem dX1_init_1 : decode cX1_init 1 = .ok (.invokespecial 3, 3) := by decide +kernel
theorem dX1_init_4 : decode cX1_init 4 = .ok (.aload_n 0, 1) := by decide +kernel
theorem dX1_init_5 : decode cX1_init 5 = .ok (.iconst 5, 1) := by decide +kernel
theorem dX1_init_6 : decode cX1_init 6 = .ok (.newarray .int, 2) := by decide +kernel
theorem dX1_init_8 : decode cX1_init 8 = .ok (.putfield 9, 3) := by decide +kernel
theorem dX1_init_11 : decode cX1_init 11 = .ok (.aload_n 0, 1) := by decide +kernel
theorem dX1_init_12 : decode cX1_init 12 = .ok (.iconst 5, 1) := by decide +kernel
theorem dX1_init_13 : decode cX1_init 13 = .ok (.newarray .int, 2) := by decide +kernel
theorem dX1_init_15 : decode cX1_init 15 = .ok (.putfield 15, 3) := by decide +kernel
theorem dX1_init_18 : decode cX1_init 18 = .ok (.aload_n 0, 1) := by decide +kernel
theorem dX1_init_19 : decode cX1_init 19 = .ok (.iconst 5, 1) := by decide +kernel
theorem dX1_init_20 : decode cX1_init 20 = .ok (.newarray .int, 2) := by decide +kernel
theorem dX1_init_22 : decode cX1_init 22 = .ok (.putfield 18, 3) := by decide +kernel
theorem dX1_init_25 : decode cX1_init 25 = .ok (.aload_n 0, 1) := by decide +kernel
theorem dX1_init_26 : decode cX1_init 26 = .ok (.bipush 12, 2) := by decide +kernel
theorem dX1_init_28 : decode cX1_init 28 = .ok (.newarray .int, 2) := by decide +kernel
theorem dX1_init_30 : decode cX1_init 30 = .ok (.putfield 21, 3) := by decide +kernel
theorem dX1_init_33 : decode cX1_init 33 = .ok (.aload_n 0, 1) := by decide +kernel
theorem dX1_init_34 : decode cX1_init 34 = .ok (.bipush 24, 2) := by decide +kernel
theorem dX1_init_36 : decode cX1_init 36 = .ok (.newarray .int, 2) := by decide +kernel
theorem dX1_init_38 : decode cX1_init 38 = .ok (.putfield 24, 3) := by decide +kernel
theorem dX1_init_41 : decode cX1_init 41 = .ok (.aload_n 0, 1) := by decide +kernel
theorem dX1_init_42 : decode cX1_init 42 = .ok (.sipush 136, 3) := by decide +kernel
theorem dX1_init_45 : decode cX1_init 45 = .ok (.newarray .int, 2) := by decide +kernel
theorem dX1_init_47 : decode cX1_init 47 = .ok (.putfield 27, 3) := by decide +kernel
theorem dX1_init_50 : decode cX1_init 50 = .ok (.aload_n 0, 1) := by decide +kernel
theorem dX1_init_51 : decode cX1_init 51 = .ok (.aload_n 1, 1) := by decide +kernel
theorem dX1_init_52 : decode cX1_init 52 = .ok (.putfield 30, 3) := by decide +kernel
theorem dX1_init_55 : decode cX1_init 55 = .ok (.aload_n 0, 1) := by decide +kernel
theorem dX1_init_56 : decode cX1_init 56 = .ok (.getfield 21, 3) := by decide +kernel
theorem dX1_init_59 : decode cX1_init 59 = .ok (.iconst (-1), 1) := by decide +kernel
theorem dX1_init_60 : decode cX1_init 60 = .ok (.invokestatic 34, 3) := by decide +kernel
theorem dX1_init_63 : decode cX1_init 63 = .ok (.return_, 1) := by decide +kernel
theorem dX1_wipe_0 : decode cX1_wipe 0 = .ok (.aload_n 0, 1) := by decide +kernel
theorem dX1_wipe_1 : decode cX1_wipe 1 = .ok (.getfield 21, 3) := by decide +kernel
theorem dX1_wipe_4 : decode cX1_wipe 4 = .ok (.iconst (-1), 1) := by decide +kernel
theorem dX1_wipe_5 : decode cX1_wipe 5 = .ok (.invokestatic 34, 3) := by decide +kernel
theorem dX1_wipe_8 : decode cX1_wipe 8 = .ok (.aload_n 0, 1) := by decide +kernel
theorem dX1_wipe_9 : decode cX1_wipe 9 = .ok (.iconst 0, 1) := by decide +kernel
theorem dX1_wipe_10 : decode cX1_wipe 10 = .ok (.putfield 40, 3) := by decide +kernel
theorem dX1_wipe_13 : decode cX1_wipe 13 = .ok (.aload_n 0, 1) := by decide +kernel
theorem dX1_wipe_14 : decode cX1_wipe 14 = .ok (.iconst 0, 1) := by decide +kernel
theorem dX1_wipe_15 : decode cX1_wipe 15 = .ok (.putfield 44, 3) := by decide +kernel
theorem dX1_wipe_18 : decode cX1_wipe 18 = .ok (.aload_n 0, 1) := by decide +kernel
theorem dX1_wipe_19 : decode cX1_wipe 19 = .ok (.iconst 0, 1) := by decide +kernel
theorem dX1_wipe_20 : decode cX1_wipe 20 = .ok (.putfield 47, 3) := by decide +kernel
theorem dX1_wipe_23 : decode cX1_wipe 23 = .ok (.return_, 1) := by decide +kernel
theorem dX1_becomes_0 : decode cX1_becomes 0 = .ok (.aload_n 1, 1) := by decide +kernel
theorem dX1_becomes_1 : decode cX1_becomes 1 = .ok (.getfield 9, 3) := by decide +kernel
theorem dX1_becomes_4 : decode cX1_becomes 4 = .ok (.iconst 0, 1) := by decide +kernel
theorem dX1_becomes_5 : decode cX1_becomes 5 = .ok (.aload_n 0, 1) := by decide +kernel
theorem dX1_becomes_6 : decode cX1_becomes 6 = .ok (.getfield 9, 3) := by decide +kernel
theorem dX1_becomes_9 : decode cX1_becomes 9 = .ok (.iconst 0, 1) := by decide +kernel
theorem dX1_becomes_10 : decode cX1_becomes 10 = .ok (.iconst 5, 1) := by decide +kernel
theorem dX1_becomes_11 : decode cX1_becomes 11 = .ok (.invokestatic 50, 3) := by decide +kernel
theorem dX1_becomes_14 : decode cX1_becomes 14 = .ok (.aload_n 1, 1) := by decide +kernel
theorem dX1_becomes_15 : decode cX1_becomes 15 = .ok (.getfield 15, 3) := by decide +kernel
theorem dX1_becomes_18 : decode cX1_becomes 18 = .ok (.iconst 0, 1) := by decide +kernel
theorem dX1_becomes_19 : decode cX1_becomes 19 = .ok (.aload_n 0, 1) := by decide +kernel
theorem dX1_becomes_20 : decode cX1_becomes 20 = .ok (.getfield 15, 3) := by decide +kernel
theorem dX1_becomes_23 : decode cX1_becomes 23 = .ok (.iconst 0, 1) := by decide +kernel
theorem dX1_becomes_24 : decode cX1_becomes 24 = .ok (.iconst 5, 1) := by decide +kernel
theorem dX1_becomes_25 : decode cX1_becomes 25 = .ok (.invokestatic 50, 3) := by decide +kernel
theorem dX1_becomes_28 : decode cX1_becomes 28 = .ok (.aload_n 1, 1) := by decide +kernel
theorem dX1_becomes_29 : decode cX1_becomes 29 = .ok (.getfield 18, 3) := by decide +kernel
theorem dX1_becomes_32 : decode cX1_becomes 32 = .ok (.iconst 0, 1) := by decide +kernel
theorem dX1_becomes_33 : decode cX1_becomes 33 = .ok (.aload_n 0, 1) := by decide +kernel
theorem dX1_becomes_34 : decode cX1_becomes 34 = .ok (.getfield 18, 3) := by decide +kernel
theorem dX1_becomes_37 : decode cX1_becomes 37 = .ok (.iconst 0, 1) := by decide +kernel
theorem dX1_becomes_38 : decode cX1_becomes 38 = .ok (.iconst 5, 1) := by decide +kernel
theorem dX1_becomes_39 : decode cX1_becomes 39 = .ok (.invokestatic 50, 3) := by decide +kernel
theorem dX1_becomes_42 : decode cX1_becomes 42 = .ok (.aload_n 1, 1) := by decide +kernel
theorem dX1_becomes_43 : decode cX1_becomes 43 = .ok (.getfield 21, 3) := by decide +kernel
theorem dX1_becomes_46 : decode cX1_becomes 46 = .ok (.iconst 0, 1) := by decide +kernel
theorem dX1_becomes_47 : decode cX1_becomes 47 = .ok (.aload_n 0, 1) := by decide +kernel
theorem dX1_becomes_48 : decode cX1_becomes 48 = .ok (.getfield 21, 3) := by decide +kernel
theorem dX1_becomes_51 : decode cX1_becomes 51 = .ok (.iconst 0, 1) := by decide +kernel
theorem dX1_becomes_52 : decode cX1_becomes 52 = .ok (.bipush 12, 2) := by decide +kernel
theorem dX1_becomes_54 : decode cX1_becomes 54 = .ok (.invokestatic 50, 3) := by decide +kernel
theorem dX1_becomes_57 : decode cX1_becomes 57 = .ok (.aload_n 1, 1) := by decide +kernel
theorem dX1_becomes_58 : decode cX1_becomes 58 = .ok (.getfield 24, 3) := by decide +kernel
theorem dX1_becomes_61 : decode cX1_becomes 61 = .ok (.iconst 0, 1) := by decide +kernel
theorem dX1_becomes_62 : decode cX1_becomes 62 = .ok (.aload_n 0, 1) := by decide +kernel
theorem dX1_becomes_63 : decode cX1_becomes 63 = .ok (.getfield 24, 3) := by decide +kernel
theorem dX1_becomes_66 : decode cX1_becomes 66 = .ok (.iconst 0, 1) := by decide +kernel
theorem dX1_becomes_67 : decode cX1_becomes 67 = .ok (.bipush 24, 2) := by decide +kernel
theorem dX1_becomes_69 : decode cX1_becomes 69 = .ok (.invokestatic 50, 3) := by decide +kernel
theorem dX1_becomes_72 : decode cX1_becomes 72 = .ok (.aload_n 1, 1) := by decide +kernel
theorem dX1_becomes_73 : decode cX1_becomes 73 = .ok (.getfield 27, 3) := by decide +kernel
theorem dX1_becomes_76 : decode cX1_becomes 76 = .ok (.iconst 0, 1) := by decide +kernel
theorem dX1_becomes_77 : decode cX1_becomes 77 = .ok (.aload_n 0, 1) := by decide +kernel
theorem dX1_becomes_78 : decode cX1_becomes 78 = .ok (.getfield 27, 3) := by decide +kernel
theorem dX1_becomes_81 : decode cX1_becomes 81 = .ok (.iconst 0, 1) := by decide +kernel
theorem dX1_becomes_82 : decode cX1_becomes 82 = .ok (.sipush 136, 3) := by decide +kernel
theorem dX1_becomes_85 : decode cX1_becomes 85 = .ok (.invokestatic 50, 3) := by decide +kernel
theorem dX1_becomes_88 : decode cX1_becomes 88 = .ok (.aload_n 0, 1) := by decide +kernel
theorem dX1_becomes_89 : decode cX1_becomes 89 = .ok (.aload_n 1, 1) := by decide +kernel
theorem dX1_becomes_90 : decode cX1_becomes 90 = .ok (.getfield 40, 3) := by decide +kernel
theorem dX1_becomes_93 : decode cX1_becomes 93 = .ok (.putfield 40, 3) := by decide +kernel
theorem dX1_becomes_96 : decode cX1_becomes 96 = .ok (.aload_n 0, 1) := by decide +kernel
theorem dX1_becomes_97 : decode cX1_becomes 97 = .ok (.aload_n 1, 1) := by decide +kernel
theorem dX1_becomes_98 : decode cX1_becomes 98 = .ok (.getfield 44, 3) := by decide +kernel
theorem dX1_becomes_101 : decode cX1_becomes 101 = .ok (.putfield 44, 3) := by decide +kernel
theorem dX1_becomes_104 : decode cX1_becomes 104 = .ok (.aload_n 0, 1) := by decide +kernel
theorem dX1_becomes_105 : decode cX1_becomes 105 = .ok (.aload_n 1, 1) := by decide +kernel
theorem dX1_becomes_106 : decode cX1_becomes 106 = .ok (.getfield 47, 3) := by decide +kernel
theorem dX1_becomes_109 : decode cX1_becomes 109 = .ok (.putfield 47, 3) := by decide +kernel
theorem dX1_becomes_112 : decode cX1_becomes 112 = .ok (.return_, 1) := by decide +kernel
theorem dX1_comes_0 : decode cX1_comes 0 = .ok (.aload_n 0, 1) := by decide +kernel
theorem dX1_comes_1 : decode cX1_comes 1 = .ok (.getfield 40, 3) := by decide +kernel
theorem dX1_comes_4 : decode cX1_comes 4 = .ok (.iconst 5, 1) := by decide +kernel
theorem dX1_comes_5 : decode cX1_comes 5 = .ok (.if_icmp .lt 6, 3) := by decide +kernel
theorem dX1_comes_8 : decode cX1_comes 8 = .ok (.bipush (-4), 2) := by decide +kernel
theorem dX1_comes_10 : decode cX1_comes 10 = .ok (.ireturn, 1) := by decide +kernel
theorem dX1_comes_11 : decode cX1_comes 11 = .ok (.aload_n 0, 1) := by decide +kernel
theorem dX1_comes_12 : decode cX1_comes 12 = .ok (.getfield 9, 3) := by decide +kernel
theorem dX1_comes_15 : decode cX1_comes 15 = .ok (.aload_n 0, 1) := by decide +kernel
theorem dX1_comes_16 : decode cX1_comes 16 = .ok (.getfield 40, 3) := by decide +kernel
theorem dX1_comes_19 : decode cX1_comes 19 = .ok (.iload_n 1, 1) := by decide +kernel
theorem dX1_comes_20 : decode cX1_comes 20 = .ok (.iastore, 1) := by decide +kernel
theorem dX1_comes_21 : decode cX1_comes 21 = .ok (.aload_n 0, 1) := by decide +kernel
theorem dX1_comes_22 : decode cX1_comes 22 = .ok (.getfield 15, 3) := by decide +kernel
theorem dX1_comes_25 : decode cX1_comes 25 = .ok (.aload_n 0, 1) := by decide +kernel
theorem dX1_comes_26 : decode cX1_comes 26 = .ok (.getfield 40, 3) := by decide +kernel
theorem dX1_comes_29 : decode cX1_comes 29 = .ok (.iload_n 2, 1) := by decide +kernel
theorem dX1_comes_30 : decode cX1_comes 30 = .ok (.iastore, 1) := by decide +kernel
theorem dX1_comes_31 : decode cX1_comes 31 = .ok (.aload_n 0, 1) := by decide +kernel
theorem dX1_comes_32 : decode cX1_comes 32 = .ok (.getfield 18, 3) := by decide +kernel
theorem dX1_comes_35 : decode cX1_comes 35 = .ok (.aload_n 0, 1) := by decide +kernel
theorem dX1_comes_36 : decode cX1_comes 36 = .ok (.getfield 40, 3) := by decide +kernel
theorem dX1_comes_39 : decode cX1_comes 39 = .ok (.iload_n 3, 1) := by decide +kernel
theorem dX1_comes_40 : decode cX1_comes 40 = .ok (.iastore, 1) := by decide +kernel
theorem dX1_comes_41 : decode cX1_comes 41 = .ok (.aload_n 0, 1) := by decide +kernel
theorem dX1_comes_42 : decode cX1_comes 42 = .ok (.iconst 0, 1) := by decide +kernel
theorem dX1_comes_43 : decode cX1_comes 43 = .ok (.putfield 47, 3) := by decide +kernel
theorem dX1_comes_46 : decode cX1_comes 46 = .ok (.aload_n 0, 1) := by decide +kernel
theorem dX1_comes_47 : decode cX1_comes 47 = .ok (.dup, 1) := by decide +kernel
theorem dX1_comes_48 : decode cX1_comes 48 = .ok (.getfield 40, 3) := by decide +kernel
theorem dX1_comes_51 : decode cX1_comes 51 = .ok (.iconst 1, 1) := by decide +kernel
theorem dX1_comes_52 : decode cX1_comes 52 = .ok (.iadd, 1) := by decide +kernel
theorem dX1_comes_53 : decode cX1_comes 53 = .ok (.putfield 40, 3) := by decide +kernel
theorem dX1_comes_56 : decode cX1_comes 56 = .ok (.aload_n 0, 1) := by decide +kernel
theorem dX1_comes_57 : decode cX1_comes 57 = .ok (.getfield 40, 3) := by decide +kernel
theorem dX1_comes_60 : decode cX1_comes 60 = .ok (.iconst 1, 1) := by decide +kernel
theorem dX1_comes_61 : decode cX1_comes 61 = .ok (.isub, 1) := by decide +kernel
theorem dX1_comes_62 : decode cX1_comes 62 = .ok (.ireturn, 1) := by decide +kernel
theorem dX1_putDown_0 : decode cX1_putDown 0 = .ok (.aload_n 0, 1) := by decide +kernel
theorem dX1_putDown_1 : decode cX1_putDown 1 = .ok (.getfield 44, 3) := by decide +kernel
theorem dX1_putDown_4 : decode cX1_putDown 4 = .ok (.bipush 6, 2) := by decide +kernel
theorem dX1_putDown_6 : decode cX1_putDown 6 = .ok (.if_icmp .lt 6, 3) := by decide +kernel
theorem dX1_putDown_9 : decode cX1_putDown 9 = .ok (.bipush (-4), 2) := by decide +kernel
theorem dX1_putDown_11 : decode cX1_putDown 11 = .ok (.ireturn, 1) := by decide +kernel
theorem dX1_putDown_12 : decode cX1_putDown 12 = .ok (.aload_n 0, 1) := by decide +kernel
theorem dX1_putDown_13 : decode cX1_putDown 13 = .ok (.getfield 44, 3) := by decide +kernel
theorem dX1_putDown_16 : decode cX1_putDown 16 = .ok (.iconst 4, 1) := by decide +kernel
theorem dX1_putDown_17 : decode cX1_putDown 17 = .ok (.imul, 1) := by decide +kernel
theorem dX1_putDown_18 : decode cX1_putDown 18 = .ok (.istore 5, 2) := by decide +kernel
theorem dX1_putDown_20 : decode cX1_putDown 20 = .ok (.aload_n 0, 1) := by decide +kernel
theorem dX1_putDown_21 : decode cX1_putDown 21 = .ok (.getfield 24, 3) := by decide +kernel
theorem dX1_putDown_24 : decode cX1_putDown 24 = .ok (.iload 5, 2) := by decide +kernel
theorem dX1_putDown_26 : decode cX1_putDown 26 = .ok (.iload_n 1, 1) := by decide +kernel
theorem dX1_putDown_27 : decode cX1_putDown 27 = .ok (.iastore, 1) := by decide +kernel
theorem dX1_putDown_28 : decode cX1_putDown 28 = .ok (.aload_n 0, 1) := by decide +kernel
theorem dX1_putDown_29 : decode cX1_putDown 29 = .ok (.getfield 24, 3) := by decide +kernel
theorem dX1_putDown_32 : decode cX1_putDown 32 = .ok (.iload 5, 2) := by decide +kernel
theorem dX1_putDown_34 : decode cX1_putDown 34 = .ok (.iconst 1, 1) := by decide +kernel
theorem dX1_putDown_35 : decode cX1_putDown 35 = .ok (.iadd, 1) := by decide +kernel
theorem dX1_putDown_36 : decode cX1_putDown 36 = .ok (.iload_n 2, 1) := by decide +kernel
theorem dX1_putDown_37 : decode cX1_putDown 37 = .ok (.iastore, 1) := by decide +kernel
theorem dX1_putDown_38 : decode cX1_putDown 38 = .ok (.aload_n 0, 1) := by decide +kernel
theorem dX1_putDown_39 : decode cX1_putDown 39 = .ok (.getfield 24, 3) := by decide +kernel
theorem dX1_putDown_42 : decode cX1_putDown 42 = .ok (.iload 5, 2) := by decide +kernel
theorem dX1_putDown_44 : decode cX1_putDown 44 = .ok (.iconst 2, 1) := by decide +kernel
theorem dX1_putDown_45 : decode cX1_putDown 45 = .ok (.iadd, 1) := by decide +kernel
theorem dX1_putDown_46 : decode cX1_putDown 46 = .ok (.iload_n 3, 1) := by decide +kernel
theorem dX1_putDown_47 : decode cX1_putDown 47 = .ok (.iastore, 1) := by decide +kernel
theorem dX1_putDown_48 : decode cX1_putDown 48 = .ok (.aload_n 0, 1) := by decide +kernel
theorem dX1_putDown_49 : decode cX1_putDown 49 = .ok (.getfield 24, 3) := by decide +kernel
theorem dX1_putDown_52 : decode cX1_putDown 52 = .ok (.iload 5, 2) := by decide +kernel
theorem dX1_putDown_54 : decode cX1_putDown 54 = .ok (.iconst 3, 1) := by decide +kernel
theorem dX1_putDown_55 : decode cX1_putDown 55 = .ok (.iadd, 1) := by decide +kernel
theorem dX1_putDown_56 : decode cX1_putDown 56 = .ok (.iload 4, 2) := by decide +kernel
theorem dX1_putDown_58 : decode cX1_putDown 58 = .ok (.iastore, 1) := by decide +kernel
theorem dX1_putDown_59 : decode cX1_putDown 59 = .ok (.aload_n 0, 1) := by decide +kernel
theorem dX1_putDown_60 : decode cX1_putDown 60 = .ok (.dup, 1) := by decide +kernel
theorem dX1_putDown_61 : decode cX1_putDown 61 = .ok (.getfield 44, 3) := by decide +kernel
theorem dX1_putDown_64 : decode cX1_putDown 64 = .ok (.iconst 1, 1) := by decide +kernel
theorem dX1_putDown_65 : decode cX1_putDown 65 = .ok (.iadd, 1) := by decide +kernel
theorem dX1_putDown_66 : decode cX1_putDown 66 = .ok (.putfield 44, 3) := by decide +kernel
theorem dX1_putDown_69 : decode cX1_putDown 69 = .ok (.aload_n 0, 1) := by decide +kernel
theorem dX1_putDown_70 : decode cX1_putDown 70 = .ok (.getfield 44, 3) := by decide +kernel
theorem dX1_putDown_73 : decode cX1_putDown 73 = .ok (.ireturn, 1) := by decide +kernel
theorem dX1_remember_0 : decode cX1_remember 0 = .ok (.aload_n 0, 1) := by decide +kernel
theorem dX1_remember_1 : decode cX1_remember 1 = .ok (.getfield 47, 3) := by decide +kernel
theorem dX1_remember_4 : decode cX1_remember 4 = .ok (.bipush 8, 2) := by decide +kernel
theorem dX1_remember_6 : decode cX1_remember 6 = .ok (.if_icmp .lt 30, 3) := by decide +kernel
theorem dX1_remember_9 : decode cX1_remember 9 = .ok (.aload_n 0, 1) := by decide +kernel
theorem dX1_remember_10 : decode cX1_remember 10 = .ok (.bipush 7, 2) := by decide +kernel
theorem dX1_remember_12 : decode cX1_remember 12 = .ok (.putfield 47, 3) := by decide +kernel
theorem dX1_remember_15 : decode cX1_remember 15 = .ok (.aload_n 0, 1) := by decide +kernel
theorem dX1_remember_16 : decode cX1_remember 16 = .ok (.getfield 27, 3) := by decide +kernel
theorem dX1_remember_19 : decode cX1_remember 19 = .ok (.bipush 17, 2) := by decide +kernel
theorem dX1_remember_21 : decode cX1_remember 21 = .ok (.aload_n 0, 1) := by decide +kernel
theorem dX1_remember_22 : decode cX1_remember 22 = .ok (.getfield 27, 3) := by decide +kernel
theorem dX1_remember_25 : decode cX1_remember 25 = .ok (.iconst 0, 1) := by decide +kernel
theorem dX1_remember_26 : decode cX1_remember 26 = .ok (.aload_n 0, 1) := by decide +kernel
theorem dX1_remember_27 : decode cX1_remember 27 = .ok (.getfield 47, 3) := by decide +kernel
theorem dX1_remember_30 : decode cX1_remember 30 = .ok (.bipush 17, 2) := by decide +kernel
theorem dX1_remember_32 : decode cX1_remember 32 = .ok (.imul, 1) := by decide +kernel
theorem dX1_remember_33 : decode cX1_remember 33 = .ok (.invokestatic 50, 3) := by decide +kernel
theorem dX1_remember_36 : decode cX1_remember 36 = .ok (.aload_n 0, 1) := by decide +kernel
theorem dX1_remember_37 : decode cX1_remember 37 = .ok (.getfield 47, 3) := by decide +kernel
theorem dX1_remember_40 : decode cX1_remember 40 = .ok (.bipush 17, 2) := by decide +kernel
theorem dX1_remember_42 : decode cX1_remember 42 = .ok (.imul, 1) := by decide +kernel
theorem dX1_remember_43 : decode cX1_remember 43 = .ok (.istore_n 1, 1) := by decide +kernel
theorem dX1_remember_44 : decode cX1_remember 44 = .ok (.aload_n 0, 1) := by decide +kernel
theorem dX1_remember_45 : decode cX1_remember 45 = .ok (.getfield 21, 3) := by decide +kernel
theorem dX1_remember_48 : decode cX1_remember 48 = .ok (.iconst 0, 1) := by decide +kernel
theorem dX1_remember_49 : decode cX1_remember 49 = .ok (.aload_n 0, 1) := by decide +kernel
theorem dX1_remember_50 : decode cX1_remember 50 = .ok (.getfield 27, 3) := by decide +kernel
theorem dX1_remember_53 : decode cX1_remember 53 = .ok (.iload_n 1, 1) := by decide +kernel
theorem dX1_remember_54 : decode cX1_remember 54 = .ok (.bipush 12, 2) := by decide +kernel
theorem dX1_remember_56 : decode cX1_remember 56 = .ok (.invokestatic 50, 3) := by decide +kernel
theorem dX1_remember_59 : decode cX1_remember 59 = .ok (.aload_n 0, 1) := by decide +kernel
theorem dX1_remember_60 : decode cX1_remember 60 = .ok (.getfield 18, 3) := by decide +kernel
theorem dX1_remember_63 : decode cX1_remember 63 = .ok (.iconst 0, 1) := by decide +kernel
theorem dX1_remember_64 : decode cX1_remember 64 = .ok (.aload_n 0, 1) := by decide +kernel
theorem dX1_remember_65 : decode cX1_remember 65 = .ok (.getfield 27, 3) := by decide +kernel
theorem dX1_remember_68 : decode cX1_remember 68 = .ok (.iload_n 1, 1) := by decide +kernel
theorem dX1_remember_69 : decode cX1_remember 69 = .ok (.bipush 12, 2) := by decide +kernel
theorem dX1_remember_71 : decode cX1_remember 71 = .ok (.iadd, 1) := by decide +kernel
theorem dX1_remember_72 : decode cX1_remember 72 = .ok (.iconst 5, 1) := by decide +kernel
theorem dX1_remember_73 : decode cX1_remember 73 = .ok (.invokestatic 50, 3) := by decide +kernel
theorem dX1_remember_76 : decode cX1_remember 76 = .ok (.aload_n 0, 1) := by decide +kernel
theorem dX1_remember_77 : decode cX1_remember 77 = .ok (.dup, 1) := by decide +kernel
theorem dX1_remember_78 : decode cX1_remember 78 = .ok (.getfield 47, 3) := by decide +kernel
theorem dX1_remember_81 : decode cX1_remember 81 = .ok (.iconst 1, 1) := by decide +kernel
theorem dX1_remember_82 : decode cX1_remember 82 = .ok (.iadd, 1) := by decide +kernel
theorem dX1_remember_83 : decode cX1_remember 83 = .ok (.putfield 47, 3) := by decide +kernel
theorem dX1_remember_86 : decode cX1_remember 86 = .ok (.return_, 1) := by decide +kernel
theorem dX1_goBack_0 : decode cX1_goBack 0 = .ok (.aload_n 0, 1) := by decide +kernel
theorem dX1_goBack_1 : decode cX1_goBack 1 = .ok (.getfield 47, 3) := by decide +kernel
theorem dX1_goBack_4 : decode cX1_goBack 4 = .ok (.ifCond .gt 4, 3) := by decide +kernel
theorem dX1_goBack_7 : decode cX1_goBack 7 = .ok (.return_, 1) := by decide +kernel
theorem dX1_goBack_8 : decode cX1_goBack 8 = .ok (.aload_n 0, 1) := by decide +kernel
theorem dX1_goBack_9 : decode cX1_goBack 9 = .ok (.dup, 1) := by decide +kernel
theorem dX1_goBack_10 : decode cX1_goBack 10 = .ok (.getfield 47, 3) := by decide +kernel
theorem dX1_goBack_13 : decode cX1_goBack 13 = .ok (.iconst 1, 1) := by decide +kernel
theorem dX1_goBack_14 : decode cX1_goBack 14 = .ok (.isub, 1) := by decide +kernel
theorem dX1_goBack_15 : decode cX1_goBack 15 = .ok (.putfield 47, 3) := by decide +kernel
theorem dX1_goBack_18 : decode cX1_goBack 18 = .ok (.aload_n 0, 1) := by decide +kernel
theorem dX1_goBack_19 : decode cX1_goBack 19 = .ok (.getfield 47, 3) := by decide +kernel
theorem dX1_goBack_22 : decode cX1_goBack 22 = .ok (.bipush 17, 2) := by decide +kernel
theorem dX1_goBack_24 : decode cX1_goBack 24 = .ok (.imul, 1) := by decide +kernel
theorem dX1_goBack_25 : decode cX1_goBack 25 = .ok (.istore_n 1, 1) := by decide +kernel
theorem dX1_goBack_26 : decode cX1_goBack 26 = .ok (.aload_n 0, 1) := by decide +kernel
theorem dX1_goBack_27 : decode cX1_goBack 27 = .ok (.getfield 27, 3) := by decide +kernel
theorem dX1_goBack_30 : decode cX1_goBack 30 = .ok (.iload_n 1, 1) := by decide +kernel
theorem dX1_goBack_31 : decode cX1_goBack 31 = .ok (.aload_n 0, 1) := by decide +kernel
theorem dX1_goBack_32 : decode cX1_goBack 32 = .ok (.getfield 21, 3) := by decide +kernel
theorem dX1_goBack_35 : decode cX1_goBack 35 = .ok (.iconst 0, 1) := by decide +kernel
theorem dX1_goBack_36 : decode cX1_goBack 36 = .ok (.bipush 12, 2) := by decide +kernel
theorem dX1_goBack_38 : decode cX1_goBack 38 = .ok (.invokestatic 50, 3) := by decide +kernel
theorem dX1_goBack_41 : decode cX1_goBack 41 = .ok (.aload_n 0, 1) := by decide +kernel
theorem dX1_goBack_42 : decode cX1_goBack 42 = .ok (.getfield 27, 3) := by decide +kernel
theorem dX1_goBack_45 : decode cX1_goBack 45 = .ok (.iload_n 1, 1) := by decide +kernel
theorem dX1_goBack_46 : decode cX1_goBack 46 = .ok (.bipush 12, 2) := by decide +kernel
theorem dX1_goBack_48 : decode cX1_goBack 48 = .ok (.iadd, 1) := by decide +kernel
theorem dX1_goBack_49 : decode cX1_goBack 49 = .ok (.aload_n 0, 1) := by decide +kernel
theorem dX1_goBack_50 : decode cX1_goBack 50 = .ok (.getfield 18, 3) := by decide +kernel
theorem dX1_goBack_53 : decode cX1_goBack 53 = .ok (.iconst 0, 1) := by decide +kernel
theorem dX1_goBack_54 : decode cX1_goBack 54 = .ok (.iconst 5, 1) := by decide +kernel
theorem dX1_goBack_55 : decode cX1_goBack 55 = .ok (.invokestatic 50, 3) := by decide +kernel
theorem dX1_goBack_58 : decode cX1_goBack 58 = .ok (.return_, 1) := by decide +kernel
theorem dX1_cellsOf_0 : decode cX1_cellsOf 0 = .ok (.iconst 0, 1) := by decide +kernel
theorem dX1_cellsOf_1 : decode cX1_cellsOf 1 = .ok (.istore_n 2, 1) := by decide +kernel
theorem dX1_cellsOf_2 : decode cX1_cellsOf 2 = .ok (.iconst 0, 1) := by decide +kernel
theorem dX1_cellsOf_3 : decode cX1_cellsOf 3 = .ok (.istore_n 3, 1) := by decide +kernel
theorem dX1_cellsOf_4 : decode cX1_cellsOf 4 = .ok (.iload_n 3, 1) := by decide +kernel
theorem dX1_cellsOf_5 : decode cX1_cellsOf 5 = .ok (.bipush 12, 2) := by decide +kernel
theorem dX1_cellsOf_7 : decode cX1_cellsOf 7 = .ok (.if_icmp .ge 25, 3) := by decide +kernel
theorem dX1_cellsOf_10 : decode cX1_cellsOf 10 = .ok (.aload_n 0, 1) := by decide +kernel
theorem dX1_cellsOf_11 : decode cX1_cellsOf 11 = .ok (.getfield 21, 3) := by decide +kernel
theorem dX1_cellsOf_14 : decode cX1_cellsOf 14 = .ok (.iload_n 3, 1) := by decide +kernel
theorem dX1_cellsOf_15 : decode cX1_cellsOf 15 = .ok (.iaload, 1) := by decide +kernel
theorem dX1_cellsOf_16 : decode cX1_cellsOf 16 = .ok (.iload_n 1, 1) := by decide +kernel
theorem dX1_cellsOf_17 : decode cX1_cellsOf 17 = .ok (.if_icmp .ne 9, 3) := by decide +kernel
theorem dX1_cellsOf_20 : decode cX1_cellsOf 20 = .ok (.iload_n 2, 1) := by decide +kernel
theorem dX1_cellsOf_21 : decode cX1_cellsOf 21 = .ok (.iconst 1, 1) := by decide +kernel
theorem dX1_cellsOf_22 : decode cX1_cellsOf 22 = .ok (.iload_n 3, 1) := by decide +kernel
theorem dX1_cellsOf_23 : decode cX1_cellsOf 23 = .ok (.ishl, 1) := by decide +kernel
theorem dX1_cellsOf_24 : decode cX1_cellsOf 24 = .ok (.ior, 1) := by decide +kernel
theorem dX1_cellsOf_25 : decode cX1_cellsOf 25 = .ok (.istore_n 2, 1) := by decide +kernel
theorem dX1_cellsOf_26 : decode cX1_cellsOf 26 = .ok (.iinc 3 1, 3) := by decide +kernel
theorem dX1_cellsOf_29 : decode cX1_cellsOf 29 = .ok (.goto (-25), 3) := by decide +kernel
theorem dX1_cellsOf_32 : decode cX1_cellsOf 32 = .ok (.iload_n 2, 1) := by decide +kernel
theorem dX1_cellsOf_33 : decode cX1_cellsOf 33 = .ok (.ireturn, 1) := by decide +kernel
theorem dX1_greyCells_0 : decode cX1_greyCells 0 = .ok (.aload_n 0, 1) := by decide +kernel
theorem dX1_greyCells_1 : decode cX1_greyCells 1 = .ok (.iconst (-1), 1) := by decide +kernel
theorem dX1_greyCells_2 : decode cX1_greyCells 2 = .ok (.invokevirtual 56, 3) := by decide +kernel
theorem dX1_greyCells_5 : decode cX1_greyCells 5 = .ok (.invokestatic 60, 3) := by decide +kernel
theorem dX1_greyCells_8 : decode cX1_greyCells 8 = .ok (.ireturn, 1) := by decide +kernel
theorem dX1_allJam_0 : decode cX1_allJam 0 = .ok (.iconst 0, 1) := by decide +kernel
theorem dX1_allJam_1 : decode cX1_allJam 1 = .ok (.istore_n 1, 1) := by decide +kernel
theorem dX1_allJam_2 : decode cX1_allJam 2 = .ok (.iconst 0, 1) := by decide +kernel
theorem dX1_allJam_3 : decode cX1_allJam 3 = .ok (.istore_n 2, 1) := by decide +kernel
theorem dX1_allJam_4 : decode cX1_allJam 4 = .ok (.iload_n 2, 1) := by decide +kernel
theorem dX1_allJam_5 : decode cX1_allJam 5 = .ok (.aload_n 0, 1) := by decide +kernel
theorem dX1_allJam_6 : decode cX1_allJam 6 = .ok (.getfield 40, 3) := by decide +kernel
theorem dX1_allJam_9 : decode cX1_allJam 9 = .ok (.if_icmp .ge 18, 3) := by decide +kernel
theorem dX1_allJam_12 : decode cX1_allJam 12 = .ok (.iload_n 1, 1) := by decide +kernel
theorem dX1_allJam_13 : decode cX1_allJam 13 = .ok (.aload_n 0, 1) := by decide +kernel
theorem dX1_allJam_14 : decode cX1_allJam 14 = .ok (.getfield 18, 3) := by decide +kernel
theorem dX1_allJam_17 : decode cX1_allJam 17 = .ok (.iload_n 2, 1) := by decide +kernel
theorem dX1_allJam_18 : decode cX1_allJam 18 = .ok (.iaload, 1) := by decide +kernel
theorem dX1_allJam_19 : decode cX1_allJam 19 = .ok (.iadd, 1) := by decide +kernel
theorem dX1_allJam_20 : decode cX1_allJam 20 = .ok (.istore_n 1, 1) := by decide +kernel
theorem dX1_allJam_21 : decode cX1_allJam 21 = .ok (.iinc 2 1, 3) := by decide +kernel
theorem dX1_allJam_24 : decode cX1_allJam 24 = .ok (.goto (-20), 3) := by decide +kernel
theorem dX1_allJam_27 : decode cX1_allJam 27 = .ok (.iload_n 1, 1) := by decide +kernel
theorem dX1_allJam_28 : decode cX1_allJam 28 = .ok (.ireturn, 1) := by decide +kernel
theorem dX1_kindOf_0 : decode cX1_kindOf 0 = .ok (.aload_n 0, 1) := by decide +kernel
theorem dX1_kindOf_1 : decode cX1_kindOf 1 = .ok (.getfield 30, 3) := by decide +kernel
theorem dX1_kindOf_4 : decode cX1_kindOf 4 = .ok (.aload_n 0, 1) := by decide +kernel
theorem dX1_kindOf_5 : decode cX1_kindOf 5 = .ok (.getfield 9, 3) := by decide +kernel
theorem dX1_kindOf_8 : decode cX1_kindOf 8 = .ok (.iload_n 1, 1) := by decide +kernel
theorem dX1_kindOf_9 : decode cX1_kindOf 9 = .ok (.iaload, 1) := by decide +kernel
theorem dX1_kindOf_10 : decode cX1_kindOf 10 = .ok (.aaload, 1) := by decide +kernel
theorem dX1_kindOf_11 : decode cX1_kindOf 11 = .ok (.areturn, 1) := by decide +kernel
theorem dX1_worthTo_0 : decode cX1_worthTo 0 = .ok (.aload_n 0, 1) := by decide +kernel
theorem dX1_worthTo_1 : decode cX1_worthTo 1 = .ok (.iload_n 1, 1) := by decide +kernel
theorem dX1_worthTo_2 : decode cX1_worthTo 2 = .ok (.invokevirtual 65, 3) := by decide +kernel
theorem dX1_worthTo_5 : decode cX1_worthTo 5 = .ok (.astore_n 3, 1) := by decide +kernel
theorem dX1_worthTo_6 : decode cX1_worthTo 6 = .ok (.iconst 0, 1) := by decide +kernel
theorem dX1_worthTo_7 : decode cX1_worthTo 7 = .ok (.istore 4, 2) := by decide +kernel
theorem dX1_worthTo_9 : decode cX1_worthTo 9 = .ok (.iconst 0, 1) := by decide +kernel
theorem dX1_worthTo_10 : decode cX1_worthTo 10 = .ok (.istore 5, 2) := by decide +kernel
theorem dX1_worthTo_12 : decode cX1_worthTo 12 = .ok (.iload 5, 2) := by decide +kernel
theorem dX1_worthTo_14 : decode cX1_worthTo 14 = .ok (.bipush 12, 2) := by decide +kernel
theorem dX1_worthTo_16 : decode cX1_worthTo 16 = .ok (.if_icmp .ge 37, 3) := by decide +kernel
theorem dX1_worthTo_19 : decode cX1_worthTo 19 = .ok (.iload_n 2, 1) := by decide +kernel
theorem dX1_worthTo_20 : decode cX1_worthTo 20 = .ok (.iload 5, 2) := by decide +kernel
theorem dX1_worthTo_22 : decode cX1_worthTo 22 = .ok (.invokestatic 69, 3) := by decide +kernel
theorem dX1_worthTo_25 : decode cX1_worthTo 25 = .ok (.ifCond .eq 22, 3) := by decide +kernel
theorem dX1_worthTo_28 : decode cX1_worthTo 28 = .ok (.iload 4, 2) := by decide +kernel
theorem dX1_worthTo_30 : decode cX1_worthTo 30 = .ok (.aload_n 3, 1) := by decide +kernel
theorem dX1_worthTo_31 : decode cX1_worthTo 31 = .ok (.iload 5, 2) := by decide +kernel
theorem dX1_worthTo_33 : decode cX1_worthTo 33 = .ok (.iload_n 2, 1) := by decide +kernel
theorem dX1_worthTo_34 : decode cX1_worthTo 34 = .ok (.iload 5, 2) := by decide +kernel
theorem dX1_worthTo_36 : decode cX1_worthTo 36 = .ok (.iconst 1, 1) := by decide +kernel
theorem dX1_worthTo_37 : decode cX1_worthTo 37 = .ok (.isub, 1) := by decide +kernel
theorem dX1_worthTo_38 : decode cX1_worthTo 38 = .ok (.invokestatic 69, 3) := by decide +kernel
theorem dX1_worthTo_41 : decode cX1_worthTo 41 = .ok (.invokevirtual 73, 3) := by decide +kernel
theorem dX1_worthTo_44 : decode cX1_worthTo 44 = .ok (.iadd, 1) := by decide +kernel
theorem dX1_worthTo_45 : decode cX1_worthTo 45 = .ok (.istore 4, 2) := by decide +kernel
theorem dX1_worthTo_47 : decode cX1_worthTo 47 = .ok (.iinc 5 1, 3) := by decide +kernel
theorem dX1_worthTo_50 : decode cX1_worthTo 50 = .ok (.goto (-38), 3) := by decide +kernel
theorem dX1_worthTo_53 : decode cX1_worthTo 53 = .ok (.iload 4, 2) := by decide +kernel
theorem dX1_worthTo_55 : decode cX1_worthTo 55 = .ok (.ireturn, 1) := by decide +kernel
theorem dX1_ownWorth_0 : decode cX1_ownWorth 0 = .ok (.aload_n 0, 1) := by decide +kernel
theorem dX1_ownWorth_1 : decode cX1_ownWorth 1 = .ok (.iload_n 1, 1) := by decide +kernel
theorem dX1_ownWorth_2 : decode cX1_ownWorth 2 = .ok (.aload_n 0, 1) := by decide +kernel
theorem dX1_ownWorth_3 : decode cX1_ownWorth 3 = .ok (.iload_n 1, 1) := by decide +kernel
theorem dX1_ownWorth_4 : decode cX1_ownWorth 4 = .ok (.invokevirtual 56, 3) := by decide +kernel
theorem dX1_ownWorth_7 : decode cX1_ownWorth 7 = .ok (.invokevirtual 79, 3) := by decide +kernel
theorem dX1_ownWorth_10 : decode cX1_ownWorth 10 = .ok (.ireturn, 1) := by decide +kernel
theorem dX1_haveEnough_0 : decode cX1_haveEnough 0 = .ok (.iconst 0, 1) := by decide +kernel
theorem dX1_haveEnough_1 : decode cX1_haveEnough 1 = .ok (.istore_n 1, 1) := by decide +kernel
theorem dX1_haveEnough_2 : decode cX1_haveEnough 2 = .ok (.iconst 0, 1) := by decide +kernel
theorem dX1_haveEnough_3 : decode cX1_haveEnough 3 = .ok (.istore_n 2, 1) := by decide +kernel
theorem dX1_haveEnough_4 : decode cX1_haveEnough 4 = .ok (.iload_n 2, 1) := by decide +kernel
theorem dX1_haveEnough_5 : decode cX1_haveEnough 5 = .ok (.aload_n 0, 1) := by decide +kernel
theorem dX1_haveEnough_6 : decode cX1_haveEnough 6 = .ok (.getfield 40, 3) := by decide +kernel
theorem dX1_haveEnough_9 : decode cX1_haveEnough 9 = .ok (.if_icmp .ge 32, 3) := by decide +kernel
theorem dX1_haveEnough_12 : decode cX1_haveEnough 12 = .ok (.aload_n 0, 1) := by decide +kernel
theorem dX1_haveEnough_13 : decode cX1_haveEnough 13 = .ok (.iload_n 2, 1) := by decide +kernel
theorem dX1_haveEnough_14 : decode cX1_haveEnough 14 = .ok (.invokevirtual 56, 3) := by decide +kernel
theorem dX1_haveEnough_17 : decode cX1_haveEnough 17 = .ok (.invokestatic 60, 3) := by decide +kernel
theorem dX1_haveEnough_20 : decode cX1_haveEnough 20 = .ok (.aload_n 0, 1) := by decide +kernel
theorem dX1_haveEnough_21 : decode cX1_haveEnough 21 = .ok (.getfield 15, 3) := by decide +kernel
theorem dX1_haveEnough_24 : decode cX1_haveEnough 24 = .ok (.iload_n 2, 1) := by decide +kernel
theorem dX1_haveEnough_25 : decode cX1_haveEnough 25 = .ok (.iaload, 1) := by decide +kernel
theorem dX1_haveEnough_26 : decode cX1_haveEnough 26 = .ok (.if_icmp .lt 9, 3) := by decide +kernel
theorem dX1_haveEnough_29 : decode cX1_haveEnough 29 = .ok (.iload_n 1, 1) := by decide +kernel
theorem dX1_haveEnough_30 : decode cX1_haveEnough 30 = .ok (.iconst 1, 1) := by decide +kernel
theorem dX1_haveEnough_31 : decode cX1_haveEnough 31 = .ok (.iload_n 2, 1) := by decide +kernel
theorem dX1_haveEnough_32 : decode cX1_haveEnough 32 = .ok (.ishl, 1) := by decide +kernel
theorem dX1_haveEnough_33 : decode cX1_haveEnough 33 = .ok (.ior, 1) := by decide +kernel
theorem dX1_haveEnough_34 : decode cX1_haveEnough 34 = .ok (.istore_n 1, 1) := by decide +kernel
theorem dX1_haveEnough_35 : decode cX1_haveEnough 35 = .ok (.iinc 2 1, 3) := by decide +kernel
theorem dX1_haveEnough_38 : decode cX1_haveEnough 38 = .ok (.goto (-34), 3) := by decide +kernel
theorem dX1_haveEnough_41 : decode cX1_haveEnough 41 = .ok (.iload_n 1, 1) := by decide +kernel
theorem dX1_haveEnough_42 : decode cX1_haveEnough 42 = .ok (.ireturn, 1) := by decide +kernel
theorem dX1_enviedBy_0 : decode cX1_enviedBy 0 = .ok (.aload_n 0, 1) := by decide +kernel
theorem dX1_enviedBy_1 : decode cX1_enviedBy 1 = .ok (.iload_n 1, 1) := by decide +kernel
theorem dX1_enviedBy_2 : decode cX1_enviedBy 2 = .ok (.invokevirtual 83, 3) := by decide +kernel
theorem dX1_enviedBy_5 : decode cX1_enviedBy 5 = .ok (.istore_n 2, 1) := by decide +kernel
theorem dX1_enviedBy_6 : decode cX1_enviedBy 6 = .ok (.iconst 0, 1) := by decide +kernel
theorem dX1_enviedBy_7 : decode cX1_enviedBy 7 = .ok (.istore_n 3, 1) := by decide +kernel
theorem dX1_enviedBy_8 : decode cX1_enviedBy 8 = .ok (.iconst 0, 1) := by decide +kernel
theorem dX1_enviedBy_9 : decode cX1_enviedBy 9 = .ok (.istore 4, 2) := by decide +kernel
theorem dX1_enviedBy_11 : decode cX1_enviedBy 11 = .ok (.iload 4, 2) := by decide +kernel
theorem dX1_enviedBy_13 : decode cX1_enviedBy 13 = .ok (.aload_n 0, 1) := by decide +kernel
theorem dX1_enviedBy_14 : decode cX1_enviedBy 14 = .ok (.getfield 40, 3) := by decide +kernel
theorem dX1_enviedBy_17 : decode cX1_enviedBy 17 = .ok (.if_icmp .ge 31, 3) := by decide +kernel
theorem dX1_enviedBy_20 : decode cX1_enviedBy 20 = .ok (.aload_n 0, 1) := by decide +kernel
theorem dX1_enviedBy_21 : decode cX1_enviedBy 21 = .ok (.iload_n 1, 1) := by decide +kernel
theorem dX1_enviedBy_22 : decode cX1_enviedBy 22 = .ok (.aload_n 0, 1) := by decide +kernel
theorem dX1_enviedBy_23 : decode cX1_enviedBy 23 = .ok (.iload 4, 2) := by decide +kernel
theorem dX1_enviedBy_25 : decode cX1_enviedBy 25 = .ok (.invokevirtual 56, 3) := by decide +kernel
theorem dX1_enviedBy_28 : decode cX1_enviedBy 28 = .ok (.invokevirtual 79, 3) := by decide +kernel
theorem dX1_enviedBy_31 : decode cX1_enviedBy 31 = .ok (.iload_n 2, 1) := by decide +kernel
theorem dX1_enviedBy_32 : decode cX1_enviedBy 32 = .ok (.if_icmp .le 10, 3) := by decide +kernel
theorem dX1_enviedBy_35 : decode cX1_enviedBy 35 = .ok (.iload_n 3, 1) := by decide +kernel
theorem dX1_enviedBy_36 : decode cX1_enviedBy 36 = .ok (.iconst 1, 1) := by decide +kernel
theorem dX1_enviedBy_37 : decode cX1_enviedBy 37 = .ok (.iload 4, 2) := by decide +kernel
theorem dX1_enviedBy_39 : decode cX1_enviedBy 39 = .ok (.ishl, 1) := by decide +kernel
theorem dX1_enviedBy_40 : decode cX1_enviedBy 40 = .ok (.ior, 1) := by decide +kernel
theorem dX1_enviedBy_41 : decode cX1_enviedBy 41 = .ok (.istore_n 3, 1) := by decide +kernel
theorem dX1_enviedBy_42 : decode cX1_enviedBy 42 = .ok (.iinc 4 1, 3) := by decide +kernel
theorem dX1_enviedBy_45 : decode cX1_enviedBy 45 = .ok (.goto (-34), 3) := by decide +kernel
theorem dX1_enviedBy_48 : decode cX1_enviedBy 48 = .ok (.iload_n 3, 1) := by decide +kernel
theorem dX1_enviedBy_49 : decode cX1_enviedBy 49 = .ok (.ireturn, 1) := by decide +kernel
theorem dX1_isFair_0 : decode cX1_isFair 0 = .ok (.aload_n 0, 1) := by decide +kernel
theorem dX1_isFair_1 : decode cX1_isFair 1 = .ok (.iload_n 1, 1) := by decide +kernel
theorem dX1_isFair_2 : decode cX1_isFair 2 = .ok (.iload_n 2, 1) := by decide +kernel
theorem dX1_isFair_3 : decode cX1_isFair 3 = .ok (.invokevirtual 79, 3) := by decide +kernel
theorem dX1_isFair_6 : decode cX1_isFair 6 = .ok (.aload_n 0, 1) := by decide +kernel
theorem dX1_isFair_7 : decode cX1_isFair 7 = .ok (.getfield 40, 3) := by decide +kernel
theorem dX1_isFair_10 : decode cX1_isFair 10 = .ok (.imul, 1) := by decide +kernel
theorem dX1_isFair_11 : decode cX1_isFair 11 = .ok (.aload_n 0, 1) := by decide +kernel
theorem dX1_isFair_12 : decode cX1_isFair 12 = .ok (.iload_n 1, 1) := by decide +kernel
theorem dX1_isFair_13 : decode cX1_isFair 13 = .ok (.sipush 4095, 3) := by decide +kernel
theorem dX1_isFair_16 : decode cX1_isFair 16 = .ok (.invokevirtual 79, 3) := by decide +kernel
theorem dX1_isFair_19 : decode cX1_isFair 19 = .ok (.if_icmp .lt 7, 3) := by decide +kernel
theorem dX1_isFair_22 : decode cX1_isFair 22 = .ok (.iconst 1, 1) := by decide +kernel
theorem dX1_isFair_23 : decode cX1_isFair 23 = .ok (.goto 4, 3) := by decide +kernel
theorem dX1_isFair_26 : decode cX1_isFair 26 = .ok (.iconst 0, 1) := by decide +kernel
theorem dX1_isFair_27 : decode cX1_isFair 27 = .ok (.ireturn, 1) := by decide +kernel
theorem dX1_runFrom_0 : decode cX1_runFrom 0 = .ok (.aload_n 0, 1) := by decide +kernel
theorem dX1_runFrom_1 : decode cX1_runFrom 1 = .ok (.getfield 21, 3) := by decide +kernel
theorem dX1_runFrom_4 : decode cX1_runFrom 4 = .ok (.iload_n 1, 1) := by decide +kernel
theorem dX1_runFrom_5 : decode cX1_runFrom 5 = .ok (.iaload, 1) := by decide +kernel
theorem dX1_runFrom_6 : decode cX1_runFrom 6 = .ok (.istore_n 2, 1) := by decide +kernel
theorem dX1_runFrom_7 : decode cX1_runFrom 7 = .ok (.iload_n 2, 1) := by decide +kernel
theorem dX1_runFrom_8 : decode cX1_runFrom 8 = .ok (.iconst (-1), 1) := by decide +kernel
theorem dX1_runFrom_9 : decode cX1_runFrom 9 = .ok (.if_icmp .ne 5, 3) := by decide +kernel
theorem dX1_runFrom_12 : decode cX1_runFrom 12 = .ok (.iconst 0, 1) := by decide +kernel
theorem dX1_runFrom_13 : decode cX1_runFrom 13 = .ok (.ireturn, 1) := by decide +kernel
theorem dX1_runFrom_14 : decode cX1_runFrom 14 = .ok (.iload_n 1, 1) := by decide +kernel
theorem dX1_runFrom_15 : decode cX1_runFrom 15 = .ok (.istore_n 3, 1) := by decide +kernel
theorem dX1_runFrom_16 : decode cX1_runFrom 16 = .ok (.iload_n 3, 1) := by decide +kernel
theorem dX1_runFrom_17 : decode cX1_runFrom 17 = .ok (.bipush 12, 2) := by decide +kernel
theorem dX1_runFrom_19 : decode cX1_runFrom 19 = .ok (.if_icmp .ge 19, 3) := by decide +kernel
theorem dX1_runFrom_22 : decode cX1_runFrom 22 = .ok (.aload_n 0, 1) := by decide +kernel
theorem dX1_runFrom_23 : decode cX1_runFrom 23 = .ok (.getfield 21, 3) := by decide +kernel
theorem dX1_runFrom_26 : decode cX1_runFrom 26 = .ok (.iload_n 3, 1) := by decide +kernel
theorem dX1_runFrom_27 : decode cX1_runFrom 27 = .ok (.iaload, 1) := by decide +kernel
theorem dX1_runFrom_28 : decode cX1_runFrom 28 = .ok (.iload_n 2, 1) := by decide +kernel
theorem dX1_runFrom_29 : decode cX1_runFrom 29 = .ok (.if_icmp .ne 9, 3) := by decide +kernel
theorem dX1_runFrom_32 : decode cX1_runFrom 32 = .ok (.iinc 3 1, 3) := by decide +kernel
theorem dX1_runFrom_35 : decode cX1_runFrom 35 = .ok (.goto (-19), 3) := by decide +kernel
theorem dX1_runFrom_38 : decode cX1_runFrom 38 = .ok (.iload_n 3, 1) := by decide +kernel
theorem dX1_runFrom_39 : decode cX1_runFrom 39 = .ok (.iload_n 1, 1) := by decide +kernel
theorem dX1_runFrom_40 : decode cX1_runFrom 40 = .ok (.isub, 1) := by decide +kernel
theorem dX1_runFrom_41 : decode cX1_runFrom 41 = .ok (.ireturn, 1) := by decide +kernel
theorem dX1_ofUnlikeBoys_0 : decode cX1_ofUnlikeBoys 0 = .ok (.aload_n 0, 1) := by decide +kernel
theorem dX1_ofUnlikeBoys_1 : decode cX1_ofUnlikeBoys 1 = .ok (.getfield 21, 3) := by decide +kernel
theorem dX1_ofUnlikeBoys_4 : decode cX1_ofUnlikeBoys 4 = .ok (.iload_n 1, 1) := by decide +kernel
theorem dX1_ofUnlikeBoys_5 : decode cX1_ofUnlikeBoys 5 = .ok (.iaload, 1) := by decide +kernel
theorem dX1_ofUnlikeBoys_6 : decode cX1_ofUnlikeBoys 6 = .ok (.iconst (-1), 1) := by decide +kernel
theorem dX1_ofUnlikeBoys_7 : decode cX1_ofUnlikeBoys 7 = .ok (.if_icmp .eq 32, 3) := by decide +kernel
theorem dX1_ofUnlikeBoys_10 : decode cX1_ofUnlikeBoys 10 = .ok (.aload_n 0, 1) := by decide +kernel
theorem dX1_ofUnlikeBoys_11 : decode cX1_ofUnlikeBoys 11 = .ok (.getfield 21, 3) := by decide +kernel
theorem dX1_ofUnlikeBoys_14 : decode cX1_ofUnlikeBoys 14 = .ok (.iload_n 2, 1) := by decide +kernel
theorem dX1_ofUnlikeBoys_15 : decode cX1_ofUnlikeBoys 15 = .ok (.iaload, 1) := by decide +kernel
theorem dX1_ofUnlikeBoys_16 : decode cX1_ofUnlikeBoys 16 = .ok (.iconst (-1), 1) := by decide +kernel
theorem dX1_ofUnlikeBoys_17 : decode cX1_ofUnlikeBoys 17 = .ok (.if_icmp .eq 22, 3) := by decide +kernel
theorem dX1_ofUnlikeBoys_20 : decode cX1_ofUnlikeBoys 20 = .ok (.aload_n 0, 1) := by decide +kernel
theorem dX1_ofUnlikeBoys_21 : decode cX1_ofUnlikeBoys 21 = .ok (.getfield 21, 3) := by decide +kernel
theorem dX1_ofUnlikeBoys_24 : decode cX1_ofUnlikeBoys 24 = .ok (.iload_n 1, 1) := by decide +kernel
theorem dX1_ofUnlikeBoys_25 : decode cX1_ofUnlikeBoys 25 = .ok (.iaload, 1) := by decide +kernel
theorem dX1_ofUnlikeBoys_26 : decode cX1_ofUnlikeBoys 26 = .ok (.aload_n 0, 1) := by decide +kernel
theorem dX1_ofUnlikeBoys_27 : decode cX1_ofUnlikeBoys 27 = .ok (.getfield 21, 3) := by decide +kernel
theorem dX1_ofUnlikeBoys_30 : decode cX1_ofUnlikeBoys 30 = .ok (.iload_n 2, 1) := by decide +kernel
theorem dX1_ofUnlikeBoys_31 : decode cX1_ofUnlikeBoys 31 = .ok (.iaload, 1) := by decide +kernel
theorem dX1_ofUnlikeBoys_32 : decode cX1_ofUnlikeBoys 32 = .ok (.if_icmp .eq 7, 3) := by decide +kernel
theorem dX1_ofUnlikeBoys_35 : decode cX1_ofUnlikeBoys 35 = .ok (.iconst 1, 1) := by decide +kernel
theorem dX1_ofUnlikeBoys_36 : decode cX1_ofUnlikeBoys 36 = .ok (.goto 4, 3) := by decide +kernel
theorem dX1_ofUnlikeBoys_39 : decode cX1_ofUnlikeBoys 39 = .ok (.iconst 0, 1) := by decide +kernel
theorem dX1_ofUnlikeBoys_40 : decode cX1_ofUnlikeBoys 40 = .ok (.ireturn, 1) := by decide +kernel
theorem dX1_changeHands_0 : decode cX1_changeHands 0 = .ok (.aload_n 0, 1) := by decide +kernel
theorem dX1_changeHands_1 : decode cX1_changeHands 1 = .ok (.getfield 21, 3) := by decide +kernel
theorem dX1_changeHands_4 : decode cX1_changeHands 4 = .ok (.iload_n 1, 1) := by decide +kernel
theorem dX1_changeHands_5 : decode cX1_changeHands 5 = .ok (.iaload, 1) := by decide +kernel
theorem dX1_changeHands_6 : decode cX1_changeHands 6 = .ok (.istore_n 3, 1) := by decide +kernel
theorem dX1_changeHands_7 : decode cX1_changeHands 7 = .ok (.aload_n 0, 1) := by decide +kernel
theorem dX1_changeHands_8 : decode cX1_changeHands 8 = .ok (.getfield 21, 3) := by decide +kernel
theorem dX1_changeHands_11 : decode cX1_changeHands 11 = .ok (.iload_n 1, 1) := by decide +kernel
theorem dX1_changeHands_12 : decode cX1_changeHands 12 = .ok (.aload_n 0, 1) := by decide +kernel
theorem dX1_changeHands_13 : decode cX1_changeHands 13 = .ok (.getfield 21, 3) := by decide +kernel
theorem dX1_changeHands_16 : decode cX1_changeHands 16 = .ok (.iload_n 2, 1) := by decide +kernel
theorem dX1_changeHands_17 : decode cX1_changeHands 17 = .ok (.iaload, 1) := by decide +kernel
theorem dX1_changeHands_18 : decode cX1_changeHands 18 = .ok (.iastore, 1) := by decide +kernel
theorem dX1_changeHands_19 : decode cX1_changeHands 19 = .ok (.aload_n 0, 1) := by decide +kernel
theorem dX1_changeHands_20 : decode cX1_changeHands 20 = .ok (.getfield 21, 3) := by decide +kernel
theorem dX1_changeHands_23 : decode cX1_changeHands 23 = .ok (.iload_n 2, 1) := by decide +kernel
theorem dX1_changeHands_24 : decode cX1_changeHands 24 = .ok (.iload_n 3, 1) := by decide +kernel
theorem dX1_changeHands_25 : decode cX1_changeHands 25 = .ok (.iastore, 1) := by decide +kernel
theorem dX1_changeHands_26 : decode cX1_changeHands 26 = .ok (.return_, 1) := by decide +kernel
theorem dX1_bothGain_0 : decode cX1_bothGain 0 = .ok (.aload_n 0, 1) := by decide +kernel
theorem dX1_bothGain_1 : decode cX1_bothGain 1 = .ok (.iload_n 1, 1) := by decide +kernel
theorem dX1_bothGain_2 : decode cX1_bothGain 2 = .ok (.iload_n 2, 1) := by decide +kernel
theorem dX1_bothGain_3 : decode cX1_bothGain 3 = .ok (.invokevirtual 86, 3) := by decide +kernel
theorem dX1_bothGain_6 : decode cX1_bothGain 6 = .ok (.ifCond .ne 5, 3) := by decide +kernel
theorem dX1_bothGain_9 : decode cX1_bothGain 9 = .ok (.iconst 0, 1) := by decide +kernel
theorem dX1_bothGain_10 : decode cX1_bothGain 10 = .ok (.ireturn, 1) := by decide +kernel
theorem dX1_bothGain_11 : decode cX1_bothGain 11 = .ok (.iconst 1, 1) := by decide +kernel
theorem dX1_bothGain_12 : decode cX1_bothGain 12 = .ok (.iload_n 1, 1) := by decide +kernel
theorem dX1_bothGain_13 : decode cX1_bothGain 13 = .ok (.ishl, 1) := by decide +kernel
theorem dX1_bothGain_14 : decode cX1_bothGain 14 = .ok (.iconst 1, 1) := by decide +kernel
theorem dX1_bothGain_15 : decode cX1_bothGain 15 = .ok (.iload_n 2, 1) := by decide +kernel
theorem dX1_bothGain_16 : decode cX1_bothGain 16 = .ok (.ishl, 1) := by decide +kernel
theorem dX1_bothGain_17 : decode cX1_bothGain 17 = .ok (.ior, 1) := by decide +kernel
theorem dX1_bothGain_18 : decode cX1_bothGain 18 = .ok (.istore_n 3, 1) := by decide +kernel
theorem dX1_bothGain_19 : decode cX1_bothGain 19 = .ok (.aload_n 0, 1) := by decide +kernel
theorem dX1_bothGain_20 : decode cX1_bothGain 20 = .ok (.aload_n 0, 1) := by decide +kernel
theorem dX1_bothGain_21 : decode cX1_bothGain 21 = .ok (.getfield 21, 3) := by decide +kernel
theorem dX1_bothGain_24 : decode cX1_bothGain 24 = .ok (.iload_n 1, 1) := by decide +kernel
theorem dX1_bothGain_25 : decode cX1_bothGain 25 = .ok (.iaload, 1) := by decide +kernel
theorem dX1_bothGain_26 : decode cX1_bothGain 26 = .ok (.iload_n 3, 1) := by decide +kernel
theorem dX1_bothGain_27 : decode cX1_bothGain 27 = .ok (.invokevirtual 89, 3) := by decide +kernel
theorem dX1_bothGain_30 : decode cX1_bothGain 30 = .ok (.ifCond .eq 21, 3) := by decide +kernel
theorem dX1_bothGain_33 : decode cX1_bothGain 33 = .ok (.aload_n 0, 1) := by decide +kernel
theorem dX1_bothGain_34 : decode cX1_bothGain 34 = .ok (.aload_n 0, 1) := by decide +kernel
theorem dX1_bothGain_35 : decode cX1_bothGain 35 = .ok (.getfield 21, 3) := by decide +kernel
theorem dX1_bothGain_38 : decode cX1_bothGain 38 = .ok (.iload_n 2, 1) := by decide +kernel
theorem dX1_bothGain_39 : decode cX1_bothGain 39 = .ok (.iaload, 1) := by decide +kernel
theorem dX1_bothGain_40 : decode cX1_bothGain 40 = .ok (.iload_n 3, 1) := by decide +kernel
theorem dX1_bothGain_41 : decode cX1_bothGain 41 = .ok (.invokevirtual 89, 3) := by decide +kernel
theorem dX1_bothGain_44 : decode cX1_bothGain 44 = .ok (.ifCond .eq 7, 3) := by decide +kernel
theorem dX1_bothGain_47 : decode cX1_bothGain 47 = .ok (.iconst 1, 1) := by decide +kernel
theorem dX1_bothGain_48 : decode cX1_bothGain 48 = .ok (.goto 4, 3) := by decide +kernel
theorem dX1_bothGain_51 : decode cX1_bothGain 51 = .ok (.iconst 0, 1) := by decide +kernel
theorem dX1_bothGain_52 : decode cX1_bothGain 52 = .ok (.ireturn, 1) := by decide +kernel
theorem dX1_gains_0 : decode cX1_gains 0 = .ok (.aload_n 0, 1) := by decide +kernel
theorem dX1_gains_1 : decode cX1_gains 1 = .ok (.iload_n 1, 1) := by decide +kernel
theorem dX1_gains_2 : decode cX1_gains 2 = .ok (.invokevirtual 56, 3) := by decide +kernel
theorem dX1_gains_5 : decode cX1_gains 5 = .ok (.istore_n 3, 1) := by decide +kernel
theorem dX1_gains_6 : decode cX1_gains 6 = .ok (.aload_n 0, 1) := by decide +kernel
theorem dX1_gains_7 : decode cX1_gains 7 = .ok (.iload_n 1, 1) := by decide +kernel
theorem dX1_gains_8 : decode cX1_gains 8 = .ok (.iload_n 3, 1) := by decide +kernel
theorem dX1_gains_9 : decode cX1_gains 9 = .ok (.iload_n 2, 1) := by decide +kernel
theorem dX1_gains_10 : decode cX1_gains 10 = .ok (.ixor, 1) := by decide +kernel
theorem dX1_gains_11 : decode cX1_gains 11 = .ok (.invokevirtual 79, 3) := by decide +kernel
theorem dX1_gains_14 : decode cX1_gains 14 = .ok (.aload_n 0, 1) := by decide +kernel
theorem dX1_gains_15 : decode cX1_gains 15 = .ok (.iload_n 1, 1) := by decide +kernel
theorem dX1_gains_16 : decode cX1_gains 16 = .ok (.iload_n 3, 1) := by decide +kernel
theorem dX1_gains_17 : decode cX1_gains 17 = .ok (.invokevirtual 79, 3) := by decide +kernel
theorem dX1_gains_20 : decode cX1_gains 20 = .ok (.if_icmp .le 7, 3) := by decide +kernel
theorem dX1_gains_23 : decode cX1_gains 23 = .ok (.iconst 1, 1) := by decide +kernel
theorem dX1_gains_24 : decode cX1_gains 24 = .ok (.goto 4, 3) := by decide +kernel
theorem dX1_gains_27 : decode cX1_gains 27 = .ok (.iconst 0, 1) := by decide +kernel
theorem dX1_gains_28 : decode cX1_gains 28 = .ok (.ireturn, 1) := by decide +kernel
theorem dX1_howManySwaps_0 : decode cX1_howManySwaps 0 = .ok (.iconst 0, 1) := by decide +kernel
theorem dX1_howManySwaps_1 : decode cX1_howManySwaps 1 = .ok (.istore_n 1, 1) := by decide +kernel
theorem dX1_howManySwaps_2 : decode cX1_howManySwaps 2 = .ok (.iconst 0, 1) := by decide +kernel
theorem dX1_howManySwaps_3 : decode cX1_howManySwaps 3 = .ok (.istore_n 2, 1) := by decide +kernel
theorem dX1_howManySwaps_4 : decode cX1_howManySwaps 4 = .ok (.iload_n 2, 1) := by decide +kernel
theorem dX1_howManySwaps_5 : decode cX1_howManySwaps 5 = .ok (.bipush 12, 2) := by decide +kernel
theorem dX1_howManySwaps_7 : decode cX1_howManySwaps 7 = .ok (.if_icmp .ge 37, 3) := by decide +kernel
theorem dX1_howManySwaps_10 : decode cX1_howManySwaps 10 = .ok (.iload_n 2, 1) := by decide +kernel
theorem dX1_howManySwaps_11 : decode cX1_howManySwaps 11 = .ok (.iconst 1, 1) := by decide +kernel
theorem dX1_howManySwaps_12 : decode cX1_howManySwaps 12 = .ok (.iadd, 1) := by decide +kernel
theorem dX1_howManySwaps_13 : decode cX1_howManySwaps 13 = .ok (.istore_n 3, 1) := by decide +kernel
theorem dX1_howManySwaps_14 : decode cX1_howManySwaps 14 = .ok (.iload_n 3, 1) := by decide +kernel
theorem dX1_howManySwaps_15 : decode cX1_howManySwaps 15 = .ok (.bipush 12, 2) := by decide +kernel
theorem dX1_howManySwaps_17 : decode cX1_howManySwaps 17 = .ok (.if_icmp .ge 21, 3) := by decide +kernel
theorem dX1_howManySwaps_20 : decode cX1_howManySwaps 20 = .ok (.aload_n 0, 1) := by decide +kernel
theorem dX1_howManySwaps_21 : decode cX1_howManySwaps 21 = .ok (.iload_n 2, 1) := by decide +kernel
theorem dX1_howManySwaps_22 : decode cX1_howManySwaps 22 = .ok (.iload_n 3, 1) := by decide +kernel
theorem dX1_howManySwaps_23 : decode cX1_howManySwaps 23 = .ok (.invokevirtual 92, 3) := by decide +kernel
theorem dX1_howManySwaps_26 : decode cX1_howManySwaps 26 = .ok (.ifCond .eq 6, 3) := by decide +kernel
theorem dX1_howManySwaps_29 : decode cX1_howManySwaps 29 = .ok (.iinc 1 1, 3) := by decide +kernel
theorem dX1_howManySwaps_32 : decode cX1_howManySwaps 32 = .ok (.iinc 3 1, 3) := by decide +kernel
theorem dX1_howManySwaps_35 : decode cX1_howManySwaps 35 = .ok (.goto (-21), 3) := by decide +kernel
theorem dX1_howManySwaps_38 : decode cX1_howManySwaps 38 = .ok (.iinc 2 1, 3) := by decide +kernel
theorem dX1_howManySwaps_41 : decode cX1_howManySwaps 41 = .ok (.goto (-37), 3) := by decide +kernel
theorem dX1_howManySwaps_44 : decode cX1_howManySwaps 44 = .ok (.iload_n 1, 1) := by decide +kernel
theorem dX1_howManySwaps_45 : decode cX1_howManySwaps 45 = .ok (.ireturn, 1) := by decide +kernel
theorem dX1_swapAt_0 : decode cX1_swapAt 0 = .ok (.iconst 0, 1) := by decide +kernel
theorem dX1_swapAt_1 : decode cX1_swapAt 1 = .ok (.istore_n 2, 1) := by decide +kernel
theorem dX1_swapAt_2 : decode cX1_swapAt 2 = .ok (.iconst 0, 1) := by decide +kernel
theorem dX1_swapAt_3 : decode cX1_swapAt 3 = .ok (.istore_n 3, 1) := by decide +kernel
theorem dX1_swapAt_4 : decode cX1_swapAt 4 = .ok (.iload_n 3, 1) := by decide +kernel
theorem dX1_swapAt_5 : decode cX1_swapAt 5 = .ok (.bipush 12, 2) := by decide +kernel
theorem dX1_swapAt_7 : decode cX1_swapAt 7 = .ok (.if_icmp .ge 56, 3) := by decide +kernel
theorem dX1_swapAt_10 : decode cX1_swapAt 10 = .ok (.iload_n 3, 1) := by decide +kernel
theorem dX1_swapAt_11 : decode cX1_swapAt 11 = .ok (.iconst 1, 1) := by decide +kernel
theorem dX1_swapAt_12 : decode cX1_swapAt 12 = .ok (.iadd, 1) := by decide +kernel
theorem dX1_swapAt_13 : decode cX1_swapAt 13 = .ok (.istore 4, 2) := by decide +kernel
theorem dX1_swapAt_15 : decode cX1_swapAt 15 = .ok (.iload 4, 2) := by decide +kernel
theorem dX1_swapAt_17 : decode cX1_swapAt 17 = .ok (.bipush 12, 2) := by decide +kernel
theorem dX1_swapAt_19 : decode cX1_swapAt 19 = .ok (.if_icmp .ge 38, 3) := by decide +kernel
theorem dX1_swapAt_22 : decode cX1_swapAt 22 = .ok (.aload_n 0, 1) := by decide +kernel
theorem dX1_swapAt_23 : decode cX1_swapAt 23 = .ok (.iload_n 3, 1) := by decide +kernel
theorem dX1_swapAt_24 : decode cX1_swapAt 24 = .ok (.iload 4, 2) := by decide +kernel
theorem dX1_swapAt_26 : decode cX1_swapAt 26 = .ok (.invokevirtual 92, 3) := by decide +kernel
theorem dX1_swapAt_29 : decode cX1_swapAt 29 = .ok (.ifCond .ne 6, 3) := by decide +kernel
theorem dX1_swapAt_32 : decode cX1_swapAt 32 = .ok (.goto 19, 3) := by decide +kernel
theorem dX1_swapAt_35 : decode cX1_swapAt 35 = .ok (.iload_n 2, 1) := by decide +kernel
theorem dX1_swapAt_36 : decode cX1_swapAt 36 = .ok (.iload_n 1, 1) := by decide +kernel
theorem dX1_swapAt_37 : decode cX1_swapAt 37 = .ok (.if_icmp .ne 11, 3) := by decide +kernel
theorem dX1_swapAt_40 : decode cX1_swapAt 40 = .ok (.bipush 100, 2) := by decide +kernel
theorem dX1_swapAt_42 : decode cX1_swapAt 42 = .ok (.iload_n 3, 1) := by decide +kernel
theorem dX1_swapAt_43 : decode cX1_swapAt 43 = .ok (.imul, 1) := by decide +kernel
theorem dX1_swapAt_44 : decode cX1_swapAt 44 = .ok (.iload 4, 2) := by decide +kernel
theorem dX1_swapAt_46 : decode cX1_swapAt 46 = .ok (.iadd, 1) := by decide +kernel
theorem dX1_swapAt_47 : decode cX1_swapAt 47 = .ok (.ireturn, 1) := by decide +kernel
theorem dX1_swapAt_48 : decode cX1_swapAt 48 = .ok (.iinc 2 1, 3) := by decide +kernel
theorem dX1_swapAt_51 : decode cX1_swapAt 51 = .ok (.iinc 4 1, 3) := by decide +kernel
theorem dX1_swapAt_54 : decode cX1_swapAt 54 = .ok (.goto (-39), 3) := by decide +kernel
theorem dX1_swapAt_57 : decode cX1_swapAt 57 = .ok (.iinc 3 1, 3) := by decide +kernel
theorem dX1_swapAt_60 : decode cX1_swapAt 60 = .ok (.goto (-56), 3) := by decide +kernel
theorem dX1_swapAt_63 : decode cX1_swapAt 63 = .ok (.iconst (-1), 1) := by decide +kernel
theorem dX1_swapAt_64 : decode cX1_swapAt 64 = .ok (.ireturn, 1) := by decide +kernel
theorem dX1_lossOf_0 : decode cX1_lossOf 0 = .ok (.aload_n 0, 1) := by decide +kernel
theorem dX1_lossOf_1 : decode cX1_lossOf 1 = .ok (.getfield 21, 3) := by decide +kernel
theorem dX1_lossOf_4 : decode cX1_lossOf 4 = .ok (.iload_n 1, 1) := by decide +kernel
theorem dX1_lossOf_5 : decode cX1_lossOf 5 = .ok (.iaload, 1) := by decide +kernel
theorem dX1_lossOf_6 : decode cX1_lossOf 6 = .ok (.istore_n 2, 1) := by decide +kernel
theorem dX1_lossOf_7 : decode cX1_lossOf 7 = .ok (.iload_n 2, 1) := by decide +kernel
theorem dX1_lossOf_8 : decode cX1_lossOf 8 = .ok (.iconst (-1), 1) := by decide +kernel
theorem dX1_lossOf_9 : decode cX1_lossOf 9 = .ok (.if_icmp .ne 5, 3) := by decide +kernel
theorem dX1_lossOf_12 : decode cX1_lossOf 12 = .ok (.iconst 0, 1) := by decide +kernel
theorem dX1_lossOf_13 : decode cX1_lossOf 13 = .ok (.ireturn, 1) := by decide +kernel
theorem dX1_lossOf_14 : decode cX1_lossOf 14 = .ok (.aload_n 0, 1) := by decide +kernel
theorem dX1_lossOf_15 : decode cX1_lossOf 15 = .ok (.iload_n 2, 1) := by decide +kernel
theorem dX1_lossOf_16 : decode cX1_lossOf 16 = .ok (.invokevirtual 56, 3) := by decide +kernel
theorem dX1_lossOf_19 : decode cX1_lossOf 19 = .ok (.istore_n 3, 1) := by decide +kernel
theorem dX1_lossOf_20 : decode cX1_lossOf 20 = .ok (.aload_n 0, 1) := by decide +kernel
theorem dX1_lossOf_21 : decode cX1_lossOf 21 = .ok (.iload_n 2, 1) := by decide +kernel
theorem dX1_lossOf_22 : decode cX1_lossOf 22 = .ok (.iload_n 3, 1) := by decide +kernel
theorem dX1_lossOf_23 : decode cX1_lossOf 23 = .ok (.invokevirtual 79, 3) := by decide +kernel
theorem dX1_lossOf_26 : decode cX1_lossOf 26 = .ok (.aload_n 0, 1) := by decide +kernel
theorem dX1_lossOf_27 : decode cX1_lossOf 27 = .ok (.iload_n 2, 1) := by decide +kernel
theorem dX1_lossOf_28 : decode cX1_lossOf 28 = .ok (.iload_n 3, 1) := by decide +kernel
theorem dX1_lossOf_29 : decode cX1_lossOf 29 = .ok (.iconst 1, 1) := by decide +kernel
theorem dX1_lossOf_30 : decode cX1_lossOf 30 = .ok (.iload_n 1, 1) := by decide +kernel
theorem dX1_lossOf_31 : decode cX1_lossOf 31 = .ok (.ishl, 1) := by decide +kernel
theorem dX1_lossOf_32 : decode cX1_lossOf 32 = .ok (.iconst (-1), 1) := by decide +kernel
theorem dX1_lossOf_33 : decode cX1_lossOf 33 = .ok (.ixor, 1) := by decide +kernel
theorem dX1_lossOf_34 : decode cX1_lossOf 34 = .ok (.iand, 1) := by decide +kernel
theorem dX1_lossOf_35 : decode cX1_lossOf 35 = .ok (.invokevirtual 79, 3) := by decide +kernel
theorem dX1_lossOf_38 : decode cX1_lossOf 38 = .ok (.isub, 1) := by decide +kernel
theorem dX1_lossOf_39 : decode cX1_lossOf 39 = .ok (.ireturn, 1) := by decide +kernel
theorem dX1_saleBrings_0 : decode cX1_saleBrings 0 = .ok (.aload_n 0, 1) := by decide +kernel
theorem dX1_saleBrings_1 : decode cX1_saleBrings 1 = .ok (.iload_n 2, 1) := by decide +kernel
theorem dX1_saleBrings_2 : decode cX1_saleBrings 2 = .ok (.invokevirtual 56, 3) := by decide +kernel
theorem dX1_saleBrings_5 : decode cX1_saleBrings 5 = .ok (.istore_n 3, 1) := by decide +kernel
theorem dX1_saleBrings_6 : decode cX1_saleBrings 6 = .ok (.aload_n 0, 1) := by decide +kernel
theorem dX1_saleBrings_7 : decode cX1_saleBrings 7 = .ok (.iload_n 2, 1) := by decide +kernel
theorem dX1_saleBrings_8 : decode cX1_saleBrings 8 = .ok (.iload_n 3, 1) := by decide +kernel
theorem dX1_saleBrings_9 : decode cX1_saleBrings 9 = .ok (.iconst 1, 1) := by decide +kernel
theorem dX1_saleBrings_10 : decode cX1_saleBrings 10 = .ok (.iload_n 1, 1) := by decide +kernel
theorem dX1_saleBrings_11 : decode cX1_saleBrings 11 = .ok (.ishl, 1) := by decide +kernel
theorem dX1_saleBrings_12 : decode cX1_saleBrings 12 = .ok (.ior, 1) := by decide +kernel
theorem dX1_saleBrings_13 : decode cX1_saleBrings 13 = .ok (.invokevirtual 79, 3) := by decide +kernel
theorem dX1_saleBrings_16 : decode cX1_saleBrings 16 = .ok (.aload_n 0, 1) := by decide +kernel
theorem dX1_saleBrings_17 : decode cX1_saleBrings 17 = .ok (.iload_n 2, 1) := by decide +kernel
theorem dX1_saleBrings_18 : decode cX1_saleBrings 18 = .ok (.iload_n 3, 1) := by decide +kernel
theorem dX1_saleBrings_19 : decode cX1_saleBrings 19 = .ok (.invokevirtual 79, 3) := by decide +kernel
theorem dX1_saleBrings_22 : decode cX1_saleBrings 22 = .ok (.isub, 1) := by decide +kernel
theorem dX1_saleBrings_23 : decode cX1_saleBrings 23 = .ok (.aload_n 0, 1) := by decide +kernel
theorem dX1_saleBrings_24 : decode cX1_saleBrings 24 = .ok (.iload_n 1, 1) := by decide +kernel
theorem dX1_saleBrings_25 : decode cX1_saleBrings 25 = .ok (.invokevirtual 95, 3) := by decide +kernel
theorem dX1_saleBrings_28 : decode cX1_saleBrings 28 = .ok (.isub, 1) := by decide +kernel
theorem dX1_saleBrings_29 : decode cX1_saleBrings 29 = .ok (.ireturn, 1) := by decide +kernel
theorem dX1_bestBuyer_0 : decode cX1_bestBuyer 0 = .ok (.aload_n 0, 1) := by decide +kernel
theorem dX1_bestBuyer_1 : decode cX1_bestBuyer 1 = .ok (.iload_n 1, 1) := by decide +kernel
theorem dX1_bestBuyer_2 : decode cX1_bestBuyer 2 = .ok (.invokevirtual 95, 3) := by decide +kernel
theorem dX1_bestBuyer_5 : decode cX1_bestBuyer 5 = .ok (.istore_n 2, 1) := by decide +kernel
theorem dX1_bestBuyer_6 : decode cX1_bestBuyer 6 = .ok (.iconst (-1), 1) := by decide +kernel
theorem dX1_bestBuyer_7 : decode cX1_bestBuyer 7 = .ok (.istore_n 3, 1) := by decide +kernel
theorem dX1_bestBuyer_8 : decode cX1_bestBuyer 8 = .ok (.iconst 0, 1) := by decide +kernel
theorem dX1_bestBuyer_9 : decode cX1_bestBuyer 9 = .ok (.istore 4, 2) := by decide +kernel
theorem dX1_bestBuyer_11 : decode cX1_bestBuyer 11 = .ok (.iconst 0, 1) := by decide +kernel
theorem dX1_bestBuyer_12 : decode cX1_bestBuyer 12 = .ok (.istore 5, 2) := by decide +kernel
theorem dX1_bestBuyer_14 : decode cX1_bestBuyer 14 = .ok (.iload 5, 2) := by decide +kernel
theorem dX1_bestBuyer_16 : decode cX1_bestBuyer 16 = .ok (.aload_n 0, 1) := by decide +kernel
theorem dX1_bestBuyer_17 : decode cX1_bestBuyer 17 = .ok (.getfield 40, 3) := by decide +kernel
theorem dX1_bestBuyer_20 : decode cX1_bestBuyer 20 = .ok (.if_icmp .ge 57, 3) := by decide +kernel
theorem dX1_bestBuyer_23 : decode cX1_bestBuyer 23 = .ok (.iload 5, 2) := by decide +kernel
theorem dX1_bestBuyer_25 : decode cX1_bestBuyer 25 = .ok (.aload_n 0, 1) := by decide +kernel
theorem dX1_bestBuyer_26 : decode cX1_bestBuyer 26 = .ok (.getfield 21, 3) := by decide +kernel
theorem dX1_bestBuyer_29 : decode cX1_bestBuyer 29 = .ok (.iload_n 1, 1) := by decide +kernel
theorem dX1_bestBuyer_30 : decode cX1_bestBuyer 30 = .ok (.iaload, 1) := by decide +kernel
theorem dX1_bestBuyer_31 : decode cX1_bestBuyer 31 = .ok (.if_icmp .eq 40, 3) := by decide +kernel
theorem dX1_bestBuyer_34 : decode cX1_bestBuyer 34 = .ok (.aload_n 0, 1) := by decide +kernel
theorem dX1_bestBuyer_35 : decode cX1_bestBuyer 35 = .ok (.getfield 18, 3) := by decide +kernel
theorem dX1_bestBuyer_38 : decode cX1_bestBuyer 38 = .ok (.iload 5, 2) := by decide +kernel
theorem dX1_bestBuyer_40 : decode cX1_bestBuyer 40 = .ok (.iaload, 1) := by decide +kernel
theorem dX1_bestBuyer_41 : decode cX1_bestBuyer 41 = .ok (.iload_n 2, 1) := by decide +kernel
theorem dX1_bestBuyer_42 : decode cX1_bestBuyer 42 = .ok (.if_icmp .ge 6, 3) := by decide +kernel
theorem dX1_bestBuyer_45 : decode cX1_bestBuyer 45 = .ok (.goto 26, 3) := by decide +kernel
theorem dX1_bestBuyer_48 : decode cX1_bestBuyer 48 = .ok (.aload_n 0, 1) := by decide +kernel
theorem dX1_bestBuyer_49 : decode cX1_bestBuyer 49 = .ok (.iload_n 1, 1) := by decide +kernel
theorem dX1_bestBuyer_50 : decode cX1_bestBuyer 50 = .ok (.iload 5, 2) := by decide +kernel
theorem dX1_bestBuyer_52 : decode cX1_bestBuyer 52 = .ok (.invokevirtual 98, 3) := by decide +kernel
theorem dX1_bestBuyer_55 : decode cX1_bestBuyer 55 = .ok (.istore 6, 2) := by decide +kernel
theorem dX1_bestBuyer_57 : decode cX1_bestBuyer 57 = .ok (.iload 6, 2) := by decide +kernel
theorem dX1_bestBuyer_59 : decode cX1_bestBuyer 59 = .ok (.iload 4, 2) := by decide +kernel
theorem dX1_bestBuyer_61 : decode cX1_bestBuyer 61 = .ok (.if_icmp .le 10, 3) := by decide +kernel
theorem dX1_bestBuyer_64 : decode cX1_bestBuyer 64 = .ok (.iload 6, 2) := by decide +kernel
theorem dX1_bestBuyer_66 : decode cX1_bestBuyer 66 = .ok (.istore 4, 2) := by decide +kernel
theorem dX1_bestBuyer_68 : decode cX1_bestBuyer 68 = .ok (.iload 5, 2) := by decide +kernel
theorem dX1_bestBuyer_70 : decode cX1_bestBuyer 70 = .ok (.istore_n 3, 1) := by decide +kernel
theorem dX1_bestBuyer_71 : decode cX1_bestBuyer 71 = .ok (.iinc 5 1, 3) := by decide +kernel
theorem dX1_bestBuyer_74 : decode cX1_bestBuyer 74 = .ok (.goto (-60), 3) := by decide +kernel
theorem dX1_bestBuyer_77 : decode cX1_bestBuyer 77 = .ok (.iload_n 3, 1) := by decide +kernel
theorem dX1_bestBuyer_78 : decode cX1_bestBuyer 78 = .ok (.ireturn, 1) := by decide +kernel
theorem dX1_fittingKinds_0 : decode cX1_fittingKinds 0 = .ok (.iconst 0, 1) := by decide +kernel
theorem dX1_fittingKinds_1 : decode cX1_fittingKinds 1 = .ok (.istore_n 2, 1) := by decide +kernel
theorem dX1_fittingKinds_2 : decode cX1_fittingKinds 2 = .ok (.iconst 0, 1) := by decide +kernel
theorem dX1_fittingKinds_3 : decode cX1_fittingKinds 3 = .ok (.istore_n 3, 1) := by decide +kernel
theorem dX1_fittingKinds_4 : decode cX1_fittingKinds 4 = .ok (.iload_n 3, 1) := by decide +kernel
theorem dX1_fittingKinds_5 : decode cX1_fittingKinds 5 = .ok (.bipush 6, 2) := by decide +kernel
theorem dX1_fittingKinds_7 : decode cX1_fittingKinds 7 = .ok (.if_icmp .ge 29, 3) := by decide +kernel
theorem dX1_fittingKinds_10 : decode cX1_fittingKinds 10 = .ok (.aload_n 0, 1) := by decide +kernel
theorem dX1_fittingKinds_11 : decode cX1_fittingKinds 11 = .ok (.iload_n 1, 1) := by decide +kernel
theorem dX1_fittingKinds_12 : decode cX1_fittingKinds 12 = .ok (.aload_n 0, 1) := by decide +kernel
theorem dX1_fittingKinds_13 : decode cX1_fittingKinds 13 = .ok (.getfield 30, 3) := by decide +kernel
theorem dX1_fittingKinds_16 : decode cX1_fittingKinds 16 = .ok (.iload_n 3, 1) := by decide +kernel
theorem dX1_fittingKinds_17 : decode cX1_fittingKinds 17 = .ok (.aaload, 1) := by decide +kernel
theorem dX1_fittingKinds_18 : decode cX1_fittingKinds 18 = .ok (.invokevirtual 101, 3) := by decide +kernel
theorem dX1_fittingKinds_21 : decode cX1_fittingKinds 21 = .ok (.ifCond .eq 9, 3) := by decide +kernel
theorem dX1_fittingKinds_24 : decode cX1_fittingKinds 24 = .ok (.iload_n 2, 1) := by decide +kernel
theorem dX1_fittingKinds_25 : decode cX1_fittingKinds 25 = .ok (.iconst 1, 1) := by decide +kernel
theorem dX1_fittingKinds_26 : decode cX1_fittingKinds 26 = .ok (.iload_n 3, 1) := by decide +kernel
theorem dX1_fittingKinds_27 : decode cX1_fittingKinds 27 = .ok (.ishl, 1) := by decide +kernel
theorem dX1_fittingKinds_28 : decode cX1_fittingKinds 28 = .ok (.ior, 1) := by decide +kernel
theorem dX1_fittingKinds_29 : decode cX1_fittingKinds 29 = .ok (.istore_n 2, 1) := by decide +kernel
theorem dX1_fittingKinds_30 : decode cX1_fittingKinds 30 = .ok (.iinc 3 1, 3) := by decide +kernel
theorem dX1_fittingKinds_33 : decode cX1_fittingKinds 33 = .ok (.goto (-29), 3) := by decide +kernel
theorem dX1_fittingKinds_36 : decode cX1_fittingKinds 36 = .ok (.iload_n 2, 1) := by decide +kernel
theorem dX1_fittingKinds_37 : decode cX1_fittingKinds 37 = .ok (.ireturn, 1) := by decide +kernel
theorem dX1_fitsAll_0 : decode cX1_fitsAll 0 = .ok (.iconst 0, 1) := by decide +kernel
theorem dX1_fitsAll_1 : decode cX1_fitsAll 1 = .ok (.istore_n 3, 1) := by decide +kernel
theorem dX1_fitsAll_2 : decode cX1_fitsAll 2 = .ok (.iload_n 3, 1) := by decide +kernel
theorem dX1_fitsAll_3 : decode cX1_fitsAll 3 = .ok (.aload_n 0, 1) := by decide +kernel
theorem dX1_fitsAll_4 : decode cX1_fitsAll 4 = .ok (.getfield 44, 3) := by decide +kernel
theorem dX1_fitsAll_7 : decode cX1_fitsAll 7 = .ok (.if_icmp .ge 73, 3) := by decide +kernel
theorem dX1_fitsAll_10 : decode cX1_fitsAll 10 = .ok (.iload_n 3, 1) := by decide +kernel
theorem dX1_fitsAll_11 : decode cX1_fitsAll 11 = .ok (.iconst 4, 1) := by decide +kernel
theorem dX1_fitsAll_12 : decode cX1_fitsAll 12 = .ok (.imul, 1) := by decide +kernel
theorem dX1_fitsAll_13 : decode cX1_fitsAll 13 = .ok (.istore 4, 2) := by decide +kernel
theorem dX1_fitsAll_15 : decode cX1_fitsAll 15 = .ok (.aload_n 0, 1) := by decide +kernel
theorem dX1_fitsAll_16 : decode cX1_fitsAll 16 = .ok (.getfield 24, 3) := by decide +kernel
theorem dX1_fitsAll_19 : decode cX1_fitsAll 19 = .ok (.iload 4, 2) := by decide +kernel
theorem dX1_fitsAll_21 : decode cX1_fitsAll 21 = .ok (.iaload, 1) := by decide +kernel
theorem dX1_fitsAll_22 : decode cX1_fitsAll 22 = .ok (.iload_n 1, 1) := by decide +kernel
theorem dX1_fitsAll_23 : decode cX1_fitsAll 23 = .ok (.if_icmp .eq 6, 3) := by decide +kernel
theorem dX1_fitsAll_26 : decode cX1_fitsAll 26 = .ok (.goto 48, 3) := by decide +kernel
theorem dX1_fitsAll_29 : decode cX1_fitsAll 29 = .ok (.aload_n 2, 1) := by decide +kernel
theorem dX1_fitsAll_30 : decode cX1_fitsAll 30 = .ok (.aload_n 0, 1) := by decide +kernel
theorem dX1_fitsAll_31 : decode cX1_fitsAll 31 = .ok (.getfield 24, 3) := by decide +kernel
theorem dX1_fitsAll_34 : decode cX1_fitsAll 34 = .ok (.iload 4, 2) := by decide +kernel
theorem dX1_fitsAll_36 : decode cX1_fitsAll 36 = .ok (.iconst 1, 1) := by decide +kernel
theorem dX1_fitsAll_37 : decode cX1_fitsAll 37 = .ok (.iadd, 1) := by decide +kernel
theorem dX1_fitsAll_38 : decode cX1_fitsAll 38 = .ok (.iaload, 1) := by decide +kernel
theorem dX1_fitsAll_39 : decode cX1_fitsAll 39 = .ok (.aload_n 0, 1) := by decide +kernel
theorem dX1_fitsAll_40 : decode cX1_fitsAll 40 = .ok (.getfield 24, 3) := by decide +kernel
theorem dX1_fitsAll_43 : decode cX1_fitsAll 43 = .ok (.iload 4, 2) := by decide +kernel
theorem dX1_fitsAll_45 : decode cX1_fitsAll 45 = .ok (.iconst 3, 1) := by decide +kernel
theorem dX1_fitsAll_46 : decode cX1_fitsAll 46 = .ok (.iadd, 1) := by decide +kernel
theorem dX1_fitsAll_47 : decode cX1_fitsAll 47 = .ok (.iaload, 1) := by decide +kernel
theorem dX1_fitsAll_48 : decode cX1_fitsAll 48 = .ok (.iconst 1, 1) := by decide +kernel
theorem dX1_fitsAll_49 : decode cX1_fitsAll 49 = .ok (.if_icmp .ne 7, 3) := by decide +kernel
theorem dX1_fitsAll_52 : decode cX1_fitsAll 52 = .ok (.iconst 1, 1) := by decide +kernel
theorem dX1_fitsAll_53 : decode cX1_fitsAll 53 = .ok (.goto 4, 3) := by decide +kernel
theorem dX1_fitsAll_56 : decode cX1_fitsAll 56 = .ok (.iconst 0, 1) := by decide +kernel
theorem dX1_fitsAll_57 : decode cX1_fitsAll 57 = .ok (.invokevirtual 73, 3) := by decide +kernel
theorem dX1_fitsAll_60 : decode cX1_fitsAll 60 = .ok (.aload_n 0, 1) := by decide +kernel
theorem dX1_fitsAll_61 : decode cX1_fitsAll 61 = .ok (.getfield 24, 3) := by decide +kernel
theorem dX1_fitsAll_64 : decode cX1_fitsAll 64 = .ok (.iload 4, 2) := by decide +kernel
theorem dX1_fitsAll_66 : decode cX1_fitsAll 66 = .ok (.iconst 2, 1) := by decide +kernel
theorem dX1_fitsAll_67 : decode cX1_fitsAll 67 = .ok (.iadd, 1) := by decide +kernel
theorem dX1_fitsAll_68 : decode cX1_fitsAll 68 = .ok (.iaload, 1) := by decide +kernel
theorem dX1_fitsAll_69 : decode cX1_fitsAll 69 = .ok (.if_icmp .eq 5, 3) := by decide +kernel
theorem dX1_fitsAll_72 : decode cX1_fitsAll 72 = .ok (.iconst 0, 1) := by decide +kernel
theorem dX1_fitsAll_73 : decode cX1_fitsAll 73 = .ok (.ireturn, 1) := by decide +kernel
theorem dX1_fitsAll_74 : decode cX1_fitsAll 74 = .ok (.iinc 3 1, 3) := by decide +kernel
theorem dX1_fitsAll_77 : decode cX1_fitsAll 77 = .ok (.goto (-75), 3) := by decide +kernel
theorem dX1_fitsAll_80 : decode cX1_fitsAll 80 = .ok (.iconst 1, 1) := by decide +kernel
theorem dX1_fitsAll_81 : decode cX1_fitsAll 81 = .ok (.ireturn, 1) := by decide +kernel
theorem dX1_tellingCell_0 : decode cX1_tellingCell 0 = .ok (.iload_n 1, 1) := by decide +kernel
theorem dX1_tellingCell_1 : decode cX1_tellingCell 1 = .ok (.ifCond .ne 5, 3) := by decide +kernel
theorem dX1_tellingCell_4 : decode cX1_tellingCell 4 = .ok (.iconst (-1), 1) := by decide +kernel
theorem dX1_tellingCell_5 : decode cX1_tellingCell 5 = .ok (.ireturn, 1) := by decide +kernel
theorem dX1_tellingCell_6 : decode cX1_tellingCell 6 = .ok (.iconst (-1), 1) := by decide +kernel
theorem dX1_tellingCell_7 : decode cX1_tellingCell 7 = .ok (.istore_n 2, 1) := by decide +kernel
theorem dX1_tellingCell_8 : decode cX1_tellingCell 8 = .ok (.bipush 7, 2) := by decide +kernel
theorem dX1_tellingCell_10 : decode cX1_tellingCell 10 = .ok (.istore_n 3, 1) := by decide +kernel
theorem dX1_tellingCell_11 : decode cX1_tellingCell 11 = .ok (.iconst 0, 1) := by decide +kernel
theorem dX1_tellingCell_12 : decode cX1_tellingCell 12 = .ok (.istore 4, 2) := by decide +kernel
theorem dX1_tellingCell_14 : decode cX1_tellingCell 14 = .ok (.iload 4, 2) := by decide +kernel
theorem dX1_tellingCell_16 : decode cX1_tellingCell 16 = .ok (.bipush 12, 2) := by decide +kernel
theorem dX1_tellingCell_18 : decode cX1_tellingCell 18 = .ok (.if_icmp .ge 30, 3) := by decide +kernel
theorem dX1_tellingCell_21 : decode cX1_tellingCell 21 = .ok (.aload_n 0, 1) := by decide +kernel
theorem dX1_tellingCell_22 : decode cX1_tellingCell 22 = .ok (.iload_n 1, 1) := by decide +kernel
theorem dX1_tellingCell_23 : decode cX1_tellingCell 23 = .ok (.iload 4, 2) := by decide +kernel
theorem dX1_tellingCell_25 : decode cX1_tellingCell 25 = .ok (.invokevirtual 105, 3) := by decide +kernel
theorem dX1_tellingCell_28 : decode cX1_tellingCell 28 = .ok (.istore 5, 2) := by decide +kernel
theorem dX1_tellingCell_30 : decode cX1_tellingCell 30 = .ok (.iload 5, 2) := by decide +kernel
theorem dX1_tellingCell_32 : decode cX1_tellingCell 32 = .ok (.iload_n 3, 1) := by decide +kernel
theorem dX1_tellingCell_33 : decode cX1_tellingCell 33 = .ok (.if_icmp .ge 9, 3) := by decide +kernel
theorem dX1_tellingCell_36 : decode cX1_tellingCell 36 = .ok (.iload 5, 2) := by decide +kernel
theorem dX1_tellingCell_38 : decode cX1_tellingCell 38 = .ok (.istore_n 3, 1) := by decide +kernel
theorem dX1_tellingCell_39 : decode cX1_tellingCell 39 = .ok (.iload 4, 2) := by decide +kernel
theorem dX1_tellingCell_41 : decode cX1_tellingCell 41 = .ok (.istore_n 2, 1) := by decide +kernel
theorem dX1_tellingCell_42 : decode cX1_tellingCell 42 = .ok (.iinc 4 1, 3) := by decide +kernel
theorem dX1_tellingCell_45 : decode cX1_tellingCell 45 = .ok (.goto (-31), 3) := by decide +kernel
theorem dX1_tellingCell_48 : decode cX1_tellingCell 48 = .ok (.iload_n 2, 1) := by decide +kernel
theorem dX1_tellingCell_49 : decode cX1_tellingCell 49 = .ok (.ireturn, 1) := by decide +kernel
theorem dX1_mostAlike_0 : decode cX1_mostAlike 0 = .ok (.iconst 0, 1) := by decide +kernel
theorem dX1_mostAlike_1 : decode cX1_mostAlike 1 = .ok (.istore_n 3, 1) := by decide +kernel
theorem dX1_mostAlike_2 : decode cX1_mostAlike 2 = .ok (.iconst 0, 1) := by decide +kernel
theorem dX1_mostAlike_3 : decode cX1_mostAlike 3 = .ok (.istore 4, 2) := by decide +kernel
theorem dX1_mostAlike_5 : decode cX1_mostAlike 5 = .ok (.iload 4, 2) := by decide +kernel
theorem dX1_mostAlike_7 : decode cX1_mostAlike 7 = .ok (.bipush 6, 2) := by decide +kernel
theorem dX1_mostAlike_9 : decode cX1_mostAlike 9 = .ok (.if_icmp .ge 41, 3) := by decide +kernel
theorem dX1_mostAlike_12 : decode cX1_mostAlike 12 = .ok (.iload_n 1, 1) := by decide +kernel
theorem dX1_mostAlike_13 : decode cX1_mostAlike 13 = .ok (.iload 4, 2) := by decide +kernel
theorem dX1_mostAlike_15 : decode cX1_mostAlike 15 = .ok (.invokestatic 69, 3) := by decide +kernel
theorem dX1_mostAlike_18 : decode cX1_mostAlike 18 = .ok (.ifCond .eq 26, 3) := by decide +kernel
theorem dX1_mostAlike_21 : decode cX1_mostAlike 21 = .ok (.iload_n 3, 1) := by decide +kernel
theorem dX1_mostAlike_22 : decode cX1_mostAlike 22 = .ok (.aload_n 0, 1) := by decide +kernel
theorem dX1_mostAlike_23 : decode cX1_mostAlike 23 = .ok (.iload_n 1, 1) := by decide +kernel
theorem dX1_mostAlike_24 : decode cX1_mostAlike 24 = .ok (.iload_n 2, 1) := by decide +kernel
theorem dX1_mostAlike_25 : decode cX1_mostAlike 25 = .ok (.aload_n 0, 1) := by decide +kernel
theorem dX1_mostAlike_26 : decode cX1_mostAlike 26 = .ok (.getfield 30, 3) := by decide +kernel
theorem dX1_mostAlike_29 : decode cX1_mostAlike 29 = .ok (.iload 4, 2) := by decide +kernel
theorem dX1_mostAlike_31 : decode cX1_mostAlike 31 = .ok (.aaload, 1) := by decide +kernel
theorem dX1_mostAlike_32 : decode cX1_mostAlike 32 = .ok (.iload_n 2, 1) := by decide +kernel
theorem dX1_mostAlike_33 : decode cX1_mostAlike 33 = .ok (.iconst 0, 1) := by decide +kernel
theorem dX1_mostAlike_34 : decode cX1_mostAlike 34 = .ok (.invokevirtual 73, 3) := by decide +kernel
theorem dX1_mostAlike_37 : decode cX1_mostAlike 37 = .ok (.invokevirtual 108, 3) := by decide +kernel
theorem dX1_mostAlike_40 : decode cX1_mostAlike 40 = .ok (.invokestatic 112, 3) := by decide +kernel
theorem dX1_mostAlike_43 : decode cX1_mostAlike 43 = .ok (.istore_n 3, 1) := by decide +kernel
theorem dX1_mostAlike_44 : decode cX1_mostAlike 44 = .ok (.iinc 4 1, 3) := by decide +kernel
theorem dX1_mostAlike_47 : decode cX1_mostAlike 47 = .ok (.goto (-42), 3) := by decide +kernel
theorem dX1_mostAlike_50 : decode cX1_mostAlike 50 = .ok (.iload_n 3, 1) := by decide +kernel
theorem dX1_mostAlike_51 : decode cX1_mostAlike 51 = .ok (.ireturn, 1) := by decide +kernel
theorem dX1_howManyAs_0 : decode cX1_howManyAs 0 = .ok (.iconst 0, 1) := by decide +kernel
theorem dX1_howManyAs_1 : decode cX1_howManyAs 1 = .ok (.istore 4, 2) := by decide +kernel
theorem dX1_howManyAs_3 : decode cX1_howManyAs 3 = .ok (.iconst 0, 1) := by decide +kernel
theorem dX1_howManyAs_4 : decode cX1_howManyAs 4 = .ok (.istore 5, 2) := by decide +kernel
theorem dX1_howManyAs_6 : decode cX1_howManyAs 6 = .ok (.iload 5, 2) := by decide +kernel
theorem dX1_howManyAs_8 : decode cX1_howManyAs 8 = .ok (.bipush 6, 2) := by decide +kernel
theorem dX1_howManyAs_10 : decode cX1_howManyAs 10 = .ok (.if_icmp .ge 37, 3) := by decide +kernel
theorem dX1_howManyAs_13 : decode cX1_howManyAs 13 = .ok (.iload_n 1, 1) := by decide +kernel
theorem dX1_howManyAs_14 : decode cX1_howManyAs 14 = .ok (.iload 5, 2) := by decide +kernel
theorem dX1_howManyAs_16 : decode cX1_howManyAs 16 = .ok (.invokestatic 69, 3) := by decide +kernel
theorem dX1_howManyAs_19 : decode cX1_howManyAs 19 = .ok (.ifCond .eq 22, 3) := by decide +kernel
theorem dX1_howManyAs_22 : decode cX1_howManyAs 22 = .ok (.aload_n 0, 1) := by decide +kernel
theorem dX1_howManyAs_23 : decode cX1_howManyAs 23 = .ok (.getfield 30, 3) := by decide +kernel
theorem dX1_howManyAs_26 : decode cX1_howManyAs 26 = .ok (.iload 5, 2) := by decide +kernel
theorem dX1_howManyAs_28 : decode cX1_howManyAs 28 = .ok (.aaload, 1) := by decide +kernel
theorem dX1_howManyAs_29 : decode cX1_howManyAs 29 = .ok (.iload_n 2, 1) := by decide +kernel
theorem dX1_howManyAs_30 : decode cX1_howManyAs 30 = .ok (.iconst 0, 1) := by decide +kernel
theorem dX1_howManyAs_31 : decode cX1_howManyAs 31 = .ok (.invokevirtual 73, 3) := by decide +kernel
theorem dX1_howManyAs_34 : decode cX1_howManyAs 34 = .ok (.iload_n 3, 1) := by decide +kernel
theorem dX1_howManyAs_35 : decode cX1_howManyAs 35 = .ok (.if_icmp .ne 6, 3) := by decide +kernel
theorem dX1_howManyAs_38 : decode cX1_howManyAs 38 = .ok (.iinc 4 1, 3) := by decide +kernel
theorem dX1_howManyAs_41 : decode cX1_howManyAs 41 = .ok (.iinc 5 1, 3) := by decide +kernel
theorem dX1_howManyAs_44 : decode cX1_howManyAs 44 = .ok (.goto (-38), 3) := by decide +kernel
theorem dX1_howManyAs_47 : decode cX1_howManyAs 47 = .ok (.iload 4, 2) := by decide +kernel
theorem dX1_howManyAs_49 : decode cX1_howManyAs 49 = .ok (.ireturn, 1) := by decide +kernel
theorem dX1_robbedBy_0 : decode cX1_robbedBy 0 = .ok (.aload_n 0, 1) := by decide +kernel
theorem dX1_robbedBy_1 : decode cX1_robbedBy 1 = .ok (.iload_n 1, 1) := by decide +kernel
theorem dX1_robbedBy_2 : decode cX1_robbedBy 2 = .ok (.invokevirtual 56, 3) := by decide +kernel
theorem dX1_robbedBy_5 : decode cX1_robbedBy 5 = .ok (.istore_n 3, 1) := by decide +kernel
theorem dX1_robbedBy_6 : decode cX1_robbedBy 6 = .ok (.iload_n 3, 1) := by decide +kernel
theorem dX1_robbedBy_7 : decode cX1_robbedBy 7 = .ok (.iload_n 2, 1) := by decide +kernel
theorem dX1_robbedBy_8 : decode cX1_robbedBy 8 = .ok (.iconst (-1), 1) := by decide +kernel
theorem dX1_robbedBy_9 : decode cX1_robbedBy 9 = .ok (.ixor, 1) := by decide +kernel
theorem dX1_robbedBy_10 : decode cX1_robbedBy 10 = .ok (.iand, 1) := by decide +kernel
theorem dX1_robbedBy_11 : decode cX1_robbedBy 11 = .ok (.ifCond .eq 5, 3) := by decide +kernel
theorem dX1_robbedBy_14 : decode cX1_robbedBy 14 = .ok (.iconst 0, 1) := by decide +kernel
theorem dX1_robbedBy_15 : decode cX1_robbedBy 15 = .ok (.ireturn, 1) := by decide +kernel
theorem dX1_robbedBy_16 : decode cX1_robbedBy 16 = .ok (.iload_n 2, 1) := by decide +kernel
theorem dX1_robbedBy_17 : decode cX1_robbedBy 17 = .ok (.iload_n 3, 1) := by decide +kernel
theorem dX1_robbedBy_18 : decode cX1_robbedBy 18 = .ok (.iconst (-1), 1) := by decide +kernel
theorem dX1_robbedBy_19 : decode cX1_robbedBy 19 = .ok (.ixor, 1) := by decide +kernel
theorem dX1_robbedBy_20 : decode cX1_robbedBy 20 = .ok (.iand, 1) := by decide +kernel
theorem dX1_robbedBy_21 : decode cX1_robbedBy 21 = .ok (.istore 4, 2) := by decide +kernel
theorem dX1_robbedBy_23 : decode cX1_robbedBy 23 = .ok (.iconst 0, 1) := by decide +kernel
theorem dX1_robbedBy_24 : decode cX1_robbedBy 24 = .ok (.istore 5, 2) := by decide +kernel
theorem dX1_robbedBy_26 : decode cX1_robbedBy 26 = .ok (.iconst 0, 1) := by decide +kernel
theorem dX1_robbedBy_27 : decode cX1_robbedBy 27 = .ok (.istore 6, 2) := by decide +kernel
theorem dX1_robbedBy_29 : decode cX1_robbedBy 29 = .ok (.iload 6, 2) := by decide +kernel
theorem dX1_robbedBy_31 : decode cX1_robbedBy 31 = .ok (.aload_n 0, 1) := by decide +kernel
theorem dX1_robbedBy_32 : decode cX1_robbedBy 32 = .ok (.getfield 40, 3) := by decide +kernel
theorem dX1_robbedBy_35 : decode cX1_robbedBy 35 = .ok (.if_icmp .ge 38, 3) := by decide +kernel
theorem dX1_robbedBy_38 : decode cX1_robbedBy 38 = .ok (.iload 6, 2) := by decide +kernel
theorem dX1_robbedBy_40 : decode cX1_robbedBy 40 = .ok (.iload_n 1, 1) := by decide +kernel
theorem dX1_robbedBy_41 : decode cX1_robbedBy 41 = .ok (.if_icmp .eq 26, 3) := by decide +kernel
theorem dX1_robbedBy_44 : decode cX1_robbedBy 44 = .ok (.iload 4, 2) := by decide +kernel
theorem dX1_robbedBy_46 : decode cX1_robbedBy 46 = .ok (.aload_n 0, 1) := by decide +kernel
theorem dX1_robbedBy_47 : decode cX1_robbedBy 47 = .ok (.iload 6, 2) := by decide +kernel
theorem dX1_robbedBy_49 : decode cX1_robbedBy 49 = .ok (.invokevirtual 56, 3) := by decide +kernel
theorem dX1_robbedBy_52 : decode cX1_robbedBy 52 = .ok (.iconst (-1), 1) := by decide +kernel
theorem dX1_robbedBy_53 : decode cX1_robbedBy 53 = .ok (.ixor, 1) := by decide +kernel
theorem dX1_robbedBy_54 : decode cX1_robbedBy 54 = .ok (.iand, 1) := by decide +kernel
theorem dX1_robbedBy_55 : decode cX1_robbedBy 55 = .ok (.ifCond .ne 12, 3) := by decide +kernel
theorem dX1_robbedBy_58 : decode cX1_robbedBy 58 = .ok (.iload 5, 2) := by decide +kernel
theorem dX1_robbedBy_60 : decode cX1_robbedBy 60 = .ok (.iconst 1, 1) := by decide +kernel
theorem dX1_robbedBy_61 : decode cX1_robbedBy 61 = .ok (.iload 6, 2) := by decide +kernel
theorem dX1_robbedBy_63 : decode cX1_robbedBy 63 = .ok (.ishl, 1) := by decide +kernel
theorem dX1_robbedBy_64 : decode cX1_robbedBy 64 = .ok (.ior, 1) := by decide +kernel
theorem dX1_robbedBy_65 : decode cX1_robbedBy 65 = .ok (.istore 5, 2) := by decide +kernel
theorem dX1_robbedBy_67 : decode cX1_robbedBy 67 = .ok (.iinc 6 1, 3) := by decide +kernel
theorem dX1_robbedBy_70 : decode cX1_robbedBy 70 = .ok (.goto (-41), 3) := by decide +kernel
theorem dX1_robbedBy_73 : decode cX1_robbedBy 73 = .ok (.iload 5, 2) := by decide +kernel
theorem dX1_robbedBy_75 : decode cX1_robbedBy 75 = .ok (.ireturn, 1) := by decide +kernel
theorem dX1_tenfoldMean_0 : decode cX1_tenfoldMean 0 = .ok (.aload_n 0, 1) := by decide +kernel
theorem dX1_tenfoldMean_1 : decode cX1_tenfoldMean 1 = .ok (.iload_n 1, 1) := by decide +kernel
theorem dX1_tenfoldMean_2 : decode cX1_tenfoldMean 2 = .ok (.invokevirtual 56, 3) := by decide +kernel
theorem dX1_tenfoldMean_5 : decode cX1_tenfoldMean 5 = .ok (.istore_n 3, 1) := by decide +kernel
theorem dX1_tenfoldMean_6 : decode cX1_tenfoldMean 6 = .ok (.iconst 0, 1) := by decide +kernel
theorem dX1_tenfoldMean_7 : decode cX1_tenfoldMean 7 = .ok (.istore 4, 2) := by decide +kernel
theorem dX1_tenfoldMean_9 : decode cX1_tenfoldMean 9 = .ok (.iconst 0, 1) := by decide +kernel
theorem dX1_tenfoldMean_10 : decode cX1_tenfoldMean 10 = .ok (.istore 5, 2) := by decide +kernel
theorem dX1_tenfoldMean_12 : decode cX1_tenfoldMean 12 = .ok (.iload 5, 2) := by decide +kernel
theorem dX1_tenfoldMean_14 : decode cX1_tenfoldMean 14 = .ok (.bipush 12, 2) := by decide +kernel
theorem dX1_tenfoldMean_16 : decode cX1_tenfoldMean 16 = .ok (.if_icmp .ge 66, 3) := by decide +kernel
theorem dX1_tenfoldMean_19 : decode cX1_tenfoldMean 19 = .ok (.iload_n 3, 1) := by decide +kernel
theorem dX1_tenfoldMean_20 : decode cX1_tenfoldMean 20 = .ok (.iload 5, 2) := by decide +kernel
theorem dX1_tenfoldMean_22 : decode cX1_tenfoldMean 22 = .ok (.invokestatic 69, 3) := by decide +kernel
theorem dX1_tenfoldMean_25 : decode cX1_tenfoldMean 25 = .ok (.ifCond .ne 6, 3) := by decide +kernel
theorem dX1_tenfoldMean_28 : decode cX1_tenfoldMean 28 = .ok (.goto 48, 3) := by decide +kernel
theorem dX1_tenfoldMean_31 : decode cX1_tenfoldMean 31 = .ok (.aload_n 0, 1) := by decide +kernel
theorem dX1_tenfoldMean_32 : decode cX1_tenfoldMean 32 = .ok (.iload_n 1, 1) := by decide +kernel
theorem dX1_tenfoldMean_33 : decode cX1_tenfoldMean 33 = .ok (.invokevirtual 65, 3) := by decide +kernel
theorem dX1_tenfoldMean_36 : decode cX1_tenfoldMean 36 = .ok (.iload 5, 2) := by decide +kernel
theorem dX1_tenfoldMean_38 : decode cX1_tenfoldMean 38 = .ok (.iload_n 3, 1) := by decide +kernel
theorem dX1_tenfoldMean_39 : decode cX1_tenfoldMean 39 = .ok (.iload 5, 2) := by decide +kernel
theorem dX1_tenfoldMean_41 : decode cX1_tenfoldMean 41 = .ok (.iconst 1, 1) := by decide +kernel
theorem dX1_tenfoldMean_42 : decode cX1_tenfoldMean 42 = .ok (.isub, 1) := by decide +kernel
theorem dX1_tenfoldMean_43 : decode cX1_tenfoldMean 43 = .ok (.invokestatic 69, 3) := by decide +kernel
theorem dX1_tenfoldMean_46 : decode cX1_tenfoldMean 46 = .ok (.invokevirtual 73, 3) := by decide +kernel
theorem dX1_tenfoldMean_49 : decode cX1_tenfoldMean 49 = .ok (.istore 6, 2) := by decide +kernel
theorem dX1_tenfoldMean_51 : decode cX1_tenfoldMean 51 = .ok (.iload 4, 2) := by decide +kernel
theorem dX1_tenfoldMean_53 : decode cX1_tenfoldMean 53 = .ok (.iload 6, 2) := by decide +kernel
theorem dX1_tenfoldMean_55 : decode cX1_tenfoldMean 55 = .ok (.iload 5, 2) := by decide +kernel
theorem dX1_tenfoldMean_57 : decode cX1_tenfoldMean 57 = .ok (.invokestatic 117, 3) := by decide +kernel
theorem dX1_tenfoldMean_60 : decode cX1_tenfoldMean 60 = .ok (.ifCond .eq 10, 3) := by decide +kernel
theorem dX1_tenfoldMean_63 : decode cX1_tenfoldMean 63 = .ok (.bipush 10, 2) := by decide +kernel
theorem dX1_tenfoldMean_65 : decode cX1_tenfoldMean 65 = .ok (.iload_n 2, 1) := by decide +kernel
theorem dX1_tenfoldMean_66 : decode cX1_tenfoldMean 66 = .ok (.isub, 1) := by decide +kernel
theorem dX1_tenfoldMean_67 : decode cX1_tenfoldMean 67 = .ok (.goto 5, 3) := by decide +kernel
theorem dX1_tenfoldMean_70 : decode cX1_tenfoldMean 70 = .ok (.bipush 10, 2) := by decide +kernel
theorem dX1_tenfoldMean_72 : decode cX1_tenfoldMean 72 = .ok (.imul, 1) := by decide +kernel
theorem dX1_tenfoldMean_73 : decode cX1_tenfoldMean 73 = .ok (.iadd, 1) := by decide +kernel
theorem dX1_tenfoldMean_74 : decode cX1_tenfoldMean 74 = .ok (.istore 4, 2) := by decide +kernel
theorem dX1_tenfoldMean_76 : decode cX1_tenfoldMean 76 = .ok (.iinc 5 1, 3) := by decide +kernel
theorem dX1_tenfoldMean_79 : decode cX1_tenfoldMean 79 = .ok (.goto (-67), 3) := by decide +kernel
theorem dX1_tenfoldMean_82 : decode cX1_tenfoldMean 82 = .ok (.iload 4, 2) := by decide +kernel
theorem dX1_tenfoldMean_84 : decode cX1_tenfoldMean 84 = .ok (.ireturn, 1) := by decide +kernel
theorem dX1_mixInto_0 : decode cX1_mixInto 0 = .ok (.lload_n 1, 1) := by decide +kernel
theorem dX1_mixInto_1 : decode cX1_mixInto 1 = .ok (.lstore_n 3, 1) := by decide +kernel
theorem dX1_mixInto_2 : decode cX1_mixInto 2 = .ok (.iconst 0, 1) := by decide +kernel
theorem dX1_mixInto_3 : decode cX1_mixInto 3 = .ok (.istore 5, 2) := by decide +kernel
theorem dX1_mixInto_5 : decode cX1_mixInto 5 = .ok (.iload 5, 2) := by decide +kernel
theorem dX1_mixInto_7 : decode cX1_mixInto 7 = .ok (.aload_n 0, 1) := by decide +kernel
theorem dX1_mixInto_8 : decode cX1_mixInto 8 = .ok (.getfield 40, 3) := by decide +kernel
theorem dX1_mixInto_11 : decode cX1_mixInto 11 = .ok (.if_icmp .ge 54, 3) := by decide +kernel
theorem dX1_mixInto_14 : decode cX1_mixInto 14 = .ok (.ldc2_w 121, 3) := by decide +kernel
theorem dX1_mixInto_17 : decode cX1_mixInto 17 = .ok (.lload_n 3, 1) := by decide +kernel
theorem dX1_mixInto_18 : decode cX1_mixInto 18 = .ok (.lmul, 1) := by decide +kernel
theorem dX1_mixInto_19 : decode cX1_mixInto 19 = .ok (.aload_n 0, 1) := by decide +kernel
theorem dX1_mixInto_20 : decode cX1_mixInto 20 = .ok (.getfield 9, 3) := by decide +kernel
theorem dX1_mixInto_23 : decode cX1_mixInto 23 = .ok (.iload 5, 2) := by decide +kernel
theorem dX1_mixInto_25 : decode cX1_mixInto 25 = .ok (.iaload, 1) := by decide +kernel
theorem dX1_mixInto_26 : decode cX1_mixInto 26 = .ok (.i2l, 1) := by decide +kernel
theorem dX1_mixInto_27 : decode cX1_mixInto 27 = .ok (.ladd, 1) := by decide +kernel
theorem dX1_mixInto_28 : decode cX1_mixInto 28 = .ok (.lstore_n 3, 1) := by decide +kernel
theorem dX1_mixInto_29 : decode cX1_mixInto 29 = .ok (.ldc2_w 121, 3) := by decide +kernel
theorem dX1_mixInto_32 : decode cX1_mixInto 32 = .ok (.lload_n 3, 1) := by decide +kernel
theorem dX1_mixInto_33 : decode cX1_mixInto 33 = .ok (.lmul, 1) := by decide +kernel
theorem dX1_mixInto_34 : decode cX1_mixInto 34 = .ok (.aload_n 0, 1) := by decide +kernel
theorem dX1_mixInto_35 : decode cX1_mixInto 35 = .ok (.getfield 15, 3) := by decide +kernel
theorem dX1_mixInto_38 : decode cX1_mixInto 38 = .ok (.iload 5, 2) := by decide +kernel
theorem dX1_mixInto_40 : decode cX1_mixInto 40 = .ok (.iaload, 1) := by decide +kernel
theorem dX1_mixInto_41 : decode cX1_mixInto 41 = .ok (.i2l, 1) := by decide +kernel
theorem dX1_mixInto_42 : decode cX1_mixInto 42 = .ok (.ladd, 1) := by decide +kernel
theorem dX1_mixInto_43 : decode cX1_mixInto 43 = .ok (.lstore_n 3, 1) := by decide +kernel
theorem dX1_mixInto_44 : decode cX1_mixInto 44 = .ok (.ldc2_w 121, 3) := by decide +kernel
theorem dX1_mixInto_47 : decode cX1_mixInto 47 = .ok (.lload_n 3, 1) := by decide +kernel
theorem dX1_mixInto_48 : decode cX1_mixInto 48 = .ok (.lmul, 1) := by decide +kernel
theorem dX1_mixInto_49 : decode cX1_mixInto 49 = .ok (.aload_n 0, 1) := by decide +kernel
theorem dX1_mixInto_50 : decode cX1_mixInto 50 = .ok (.getfield 18, 3) := by decide +kernel
theorem dX1_mixInto_53 : decode cX1_mixInto 53 = .ok (.iload 5, 2) := by decide +kernel
theorem dX1_mixInto_55 : decode cX1_mixInto 55 = .ok (.iaload, 1) := by decide +kernel
theorem dX1_mixInto_56 : decode cX1_mixInto 56 = .ok (.i2l, 1) := by decide +kernel
theorem dX1_mixInto_57 : decode cX1_mixInto 57 = .ok (.ladd, 1) := by decide +kernel
theorem dX1_mixInto_58 : decode cX1_mixInto 58 = .ok (.lstore_n 3, 1) := by decide +kernel
theorem dX1_mixInto_59 : decode cX1_mixInto 59 = .ok (.iinc 5 1, 3) := by decide +kernel
theorem dX1_mixInto_62 : decode cX1_mixInto 62 = .ok (.goto (-57), 3) := by decide +kernel
theorem dX1_mixInto_65 : decode cX1_mixInto 65 = .ok (.iconst 0, 1) := by decide +kernel
theorem dX1_mixInto_66 : decode cX1_mixInto 66 = .ok (.istore 5, 2) := by decide +kernel
theorem dX1_mixInto_68 : decode cX1_mixInto 68 = .ok (.iload 5, 2) := by decide +kernel
theorem dX1_mixInto_70 : decode cX1_mixInto 70 = .ok (.bipush 12, 2) := by decide +kernel
theorem dX1_mixInto_72 : decode cX1_mixInto 72 = .ok (.if_icmp .ge 24, 3) := by decide +kernel
theorem dX1_mixInto_75 : decode cX1_mixInto 75 = .ok (.ldc2_w 121, 3) := by decide +kernel
theorem dX1_mixInto_78 : decode cX1_mixInto 78 = .ok (.lload_n 3, 1) := by decide +kernel
theorem dX1_mixInto_79 : decode cX1_mixInto 79 = .ok (.lmul, 1) := by decide +kernel
theorem dX1_mixInto_80 : decode cX1_mixInto 80 = .ok (.aload_n 0, 1) := by decide +kernel
theorem dX1_mixInto_81 : decode cX1_mixInto 81 = .ok (.getfield 21, 3) := by decide +kernel
theorem dX1_mixInto_84 : decode cX1_mixInto 84 = .ok (.iload 5, 2) := by decide +kernel
theorem dX1_mixInto_86 : decode cX1_mixInto 86 = .ok (.iaload, 1) := by decide +kernel
theorem dX1_mixInto_87 : decode cX1_mixInto 87 = .ok (.i2l, 1) := by decide +kernel
theorem dX1_mixInto_88 : decode cX1_mixInto 88 = .ok (.ladd, 1) := by decide +kernel
theorem dX1_mixInto_89 : decode cX1_mixInto 89 = .ok (.lstore_n 3, 1) := by decide +kernel
theorem dX1_mixInto_90 : decode cX1_mixInto 90 = .ok (.iinc 5 1, 3) := by decide +kernel
theorem dX1_mixInto_93 : decode cX1_mixInto 93 = .ok (.goto (-25), 3) := by decide +kernel
theorem dX1_mixInto_96 : decode cX1_mixInto 96 = .ok (.iconst 0, 1) := by decide +kernel
theorem dX1_mixInto_97 : decode cX1_mixInto 97 = .ok (.istore 5, 2) := by decide +kernel
theorem dX1_mixInto_99 : decode cX1_mixInto 99 = .ok (.iload 5, 2) := by decide +kernel
theorem dX1_mixInto_101 : decode cX1_mixInto 101 = .ok (.aload_n 0, 1) := by decide +kernel
theorem dX1_mixInto_102 : decode cX1_mixInto 102 = .ok (.getfield 44, 3) := by decide +kernel
theorem dX1_mixInto_105 : decode cX1_mixInto 105 = .ok (.iconst 4, 1) := by decide +kernel
theorem dX1_mixInto_106 : decode cX1_mixInto 106 = .ok (.imul, 1) := by decide +kernel
theorem dX1_mixInto_107 : decode cX1_mixInto 107 = .ok (.if_icmp .ge 24, 3) := by decide +kernel
theorem dX1_mixInto_110 : decode cX1_mixInto 110 = .ok (.ldc2_w 121, 3) := by decide +kernel
theorem dX1_mixInto_113 : decode cX1_mixInto 113 = .ok (.lload_n 3, 1) := by decide +kernel
theorem dX1_mixInto_114 : decode cX1_mixInto 114 = .ok (.lmul, 1) := by decide +kernel
theorem dX1_mixInto_115 : decode cX1_mixInto 115 = .ok (.aload_n 0, 1) := by decide +kernel
theorem dX1_mixInto_116 : decode cX1_mixInto 116 = .ok (.getfield 24, 3) := by decide +kernel
theorem dX1_mixInto_119 : decode cX1_mixInto 119 = .ok (.iload 5, 2) := by decide +kernel
theorem dX1_mixInto_121 : decode cX1_mixInto 121 = .ok (.iaload, 1) := by decide +kernel
theorem dX1_mixInto_122 : decode cX1_mixInto 122 = .ok (.i2l, 1) := by decide +kernel
theorem dX1_mixInto_123 : decode cX1_mixInto 123 = .ok (.ladd, 1) := by decide +kernel
theorem dX1_mixInto_124 : decode cX1_mixInto 124 = .ok (.lstore_n 3, 1) := by decide +kernel
theorem dX1_mixInto_125 : decode cX1_mixInto 125 = .ok (.iinc 5 1, 3) := by decide +kernel
theorem dX1_mixInto_128 : decode cX1_mixInto 128 = .ok (.goto (-29), 3) := by decide +kernel
theorem dX1_mixInto_131 : decode cX1_mixInto 131 = .ok (.lload_n 3, 1) := by decide +kernel
theorem dX1_mixInto_132 : decode cX1_mixInto 132 = .ok (.lreturn, 1) := by decide +kernel
theorem dX2_init_0 : decode cX2_init 0 = .ok (.aload_n 0, 1) := by decide +kernel
theorem dX2_init_1 : decode cX2_init 1 = .ok (.invokespecial 3, 3) := by decide +kernel
theorem dX2_init_4 : decode cX2_init 4 = .ok (.aload_n 0, 1) := by decide +kernel
theorem dX2_init_5 : decode cX2_init 5 = .ok (.iconst 5, 1) := by decide +kernel
theorem dX2_init_6 : decode cX2_init 6 = .ok (.newarray .int, 2) := by decide +kernel
theorem dX2_init_8 : decode cX2_init 8 = .ok (.putfield 9, 3) := by decide +kernel
theorem dX2_init_11 : decode cX2_init 11 = .ok (.aload_n 0, 1) := by decide +kernel
theorem dX2_init_12 : decode cX2_init 12 = .ok (.iconst 5, 1) := by decide +kernel
theorem dX2_init_13 : decode cX2_init 13 = .ok (.newarray .int, 2) := by decide +kernel
theorem dX2_init_15 : decode cX2_init 15 = .ok (.putfield 15, 3) := by decide +kernel
theorem dX2_init_18 : decode cX2_init 18 = .ok (.return_, 1) := by decide +kernel
theorem dX2_search_0 : decode cX2_search 0 = .ok (.iload_n 2, 1) := by decide +kernel
theorem dX2_search_1 : decode cX2_search 1 = .ok (.ifCond .ne 8, 3) := by decide +kernel
theorem dX2_search_4 : decode cX2_search 4 = .ok (.aload_n 0, 1) := by decide +kernel
theorem dX2_search_5 : decode cX2_search 5 = .ok (.iconst (-1), 1) := by decide +kernel
theorem dX2_search_6 : decode cX2_search 6 = .ok (.putfield 18, 3) := by decide +kernel
theorem dX2_search_9 : decode cX2_search 9 = .ok (.iload_n 2, 1) := by decide +kernel
theorem dX2_search_10 : decode cX2_search 10 = .ok (.aload_n 1, 1) := by decide +kernel
theorem dX2_search_11 : decode cX2_search 11 = .ok (.getfield 22, 3) := by decide +kernel
theorem dX2_search_14 : decode cX2_search 14 = .ok (.if_icmp .ge 8, 3) := by decide +kernel
theorem dX2_search_17 : decode cX2_search 17 = .ok (.iload_n 2, 1) := by decide +kernel
theorem dX2_search_18 : decode cX2_search 18 = .ok (.iconst 5, 1) := by decide +kernel
theorem dX2_search_19 : decode cX2_search 19 = .ok (.if_icmp .lt 10, 3) := by decide +kernel
theorem dX2_search_22 : decode cX2_search 22 = .ok (.aload_n 0, 1) := by decide +kernel
theorem dX2_search_23 : decode cX2_search 23 = .ok (.iload 4, 2) := by decide +kernel
theorem dX2_search_25 : decode cX2_search 25 = .ok (.invokevirtual 27, 3) := by decide +kernel
theorem dX2_search_28 : decode cX2_search 28 = .ok (.return_, 1) := by decide +kernel
theorem dX2_search_29 : decode cX2_search 29 = .ok (.iconst 0, 1) := by decide +kernel
theorem dX2_search_30 : decode cX2_search 30 = .ok (.istore 5, 2) := by decide +kernel
theorem dX2_search_32 : decode cX2_search 32 = .ok (.iload 5, 2) := by decide +kernel
theorem dX2_search_34 : decode cX2_search 34 = .ok (.aload_n 1, 1) := by decide +kernel
theorem dX2_search_35 : decode cX2_search 35 = .ok (.getfield 22, 3) := by decide +kernel
theorem dX2_search_38 : decode cX2_search 38 = .ok (.if_icmp .ge 64, 3) := by decide +kernel
theorem dX2_search_41 : decode cX2_search 41 = .ok (.iload_n 3, 1) := by decide +kernel
theorem dX2_search_42 : decode cX2_search 42 = .ok (.iload 5, 2) := by decide +kernel
theorem dX2_search_44 : decode cX2_search 44 = .ok (.invokestatic 31, 3) := by decide +kernel
theorem dX2_search_47 : decode cX2_search 47 = .ok (.ifCond .eq 6, 3) := by decide +kernel
theorem dX2_search_50 : decode cX2_search 50 = .ok (.goto 46, 3) := by decide +kernel
theorem dX2_search_53 : decode cX2_search 53 = .ok (.aload_n 1, 1) := by decide +kernel
theorem dX2_search_54 : decode cX2_search 54 = .ok (.iload 5, 2) := by decide +kernel
theorem dX2_search_56 : decode cX2_search 56 = .ok (.iload 4, 2) := by decide +kernel
theorem dX2_search_58 : decode cX2_search 58 = .ok (.invokestatic 35, 3) := by decide +kernel
theorem dX2_search_61 : decode cX2_search 61 = .ok (.istore 6, 2) := by decide +kernel
theorem dX2_search_63 : decode cX2_search 63 = .ok (.iload 6, 2) := by decide +kernel
theorem dX2_search_65 : decode cX2_search 65 = .ok (.iconst (-1), 1) := by decide +kernel
theorem dX2_search_66 : decode cX2_search 66 = .ok (.if_icmp .ne 6, 3) := by decide +kernel
theorem dX2_search_69 : decode cX2_search 69 = .ok (.goto 27, 3) := by decide +kernel
theorem dX2_search_72 : decode cX2_search 72 = .ok (.aload_n 0, 1) := by decide +kernel
theorem dX2_search_73 : decode cX2_search 73 = .ok (.getfield 9, 3) := by decide +kernel
theorem dX2_search_76 : decode cX2_search 76 = .ok (.iload_n 2, 1) := by decide +kernel
theorem dX2_search_77 : decode cX2_search 77 = .ok (.iload 5, 2) := by decide +kernel
theorem dX2_search_79 : decode cX2_search 79 = .ok (.iastore, 1) := by decide +kernel
theorem dX2_search_80 : decode cX2_search 80 = .ok (.aload_n 0, 1) := by decide +kernel
theorem dX2_search_81 : decode cX2_search 81 = .ok (.aload_n 1, 1) := by decide +kernel
theorem dX2_search_82 : decode cX2_search 82 = .ok (.iload_n 2, 1) := by decide +kernel
theorem dX2_search_83 : decode cX2_search 83 = .ok (.iconst 1, 1) := by decide +kernel
theorem dX2_search_84 : decode cX2_search 84 = .ok (.iadd, 1) := by decide +kernel
theorem dX2_search_85 : decode cX2_search 85 = .ok (.iload_n 3, 1) := by decide +kernel
theorem dX2_search_86 : decode cX2_search 86 = .ok (.iconst 1, 1) := by decide +kernel
theorem dX2_search_87 : decode cX2_search 87 = .ok (.iload 5, 2) := by decide +kernel
theorem dX2_search_89 : decode cX2_search 89 = .ok (.ishl, 1) := by decide +kernel
theorem dX2_search_90 : decode cX2_search 90 = .ok (.ior, 1) := by decide +kernel
theorem dX2_search_91 : decode cX2_search 91 = .ok (.iload 6, 2) := by decide +kernel
theorem dX2_search_93 : decode cX2_search 93 = .ok (.invokestatic 39, 3) := by decide +kernel
theorem dX2_search_96 : decode cX2_search 96 = .ok (.iinc 5 1, 3) := by decide +kernel
theorem dX2_search_99 : decode cX2_search 99 = .ok (.goto (-67), 3) := by decide +kernel
theorem dX2_search_102 : decode cX2_search 102 = .ok (.return_, 1) := by decide +kernel
theorem dX2_keepIfFewer_0 : decode cX2_keepIfFewer 0 = .ok (.aload_n 0, 1) := by decide +kernel
theorem dX2_keepIfFewer_1 : decode cX2_keepIfFewer 1 = .ok (.getfield 18, 3) := by decide +kernel
theorem dX2_keepIfFewer_4 : decode cX2_keepIfFewer 4 = .ok (.iconst (-1), 1) := by decide +kernel
theorem dX2_keepIfFewer_5 : decode cX2_keepIfFewer 5 = .ok (.if_icmp .eq 12, 3) := by decide +kernel
theorem dX2_keepIfFewer_8 : decode cX2_keepIfFewer 8 = .ok (.iload_n 1, 1) := by decide +kernel
theorem dX2_keepIfFewer_9 : decode cX2_keepIfFewer 9 = .ok (.aload_n 0, 1) := by decide +kernel
theorem dX2_keepIfFewer_10 : decode cX2_keepIfFewer 10 = .ok (.getfield 18, 3) := by decide +kernel
theorem dX2_keepIfFewer_13 : decode cX2_keepIfFewer 13 = .ok (.if_icmp .lt 4, 3) := by decide +kernel
theorem dX2_keepIfFewer_16 : decode cX2_keepIfFewer 16 = .ok (.return_, 1) := by decide +kernel
theorem dX2_keepIfFewer_17 : decode cX2_keepIfFewer 17 = .ok (.aload_n 0, 1) := by decide +kernel
theorem dX2_keepIfFewer_18 : decode cX2_keepIfFewer 18 = .ok (.iload_n 1, 1) := by decide +kernel
theorem dX2_keepIfFewer_19 : decode cX2_keepIfFewer 19 = .ok (.putfield 18, 3) := by decide +kernel
theorem dX2_keepIfFewer_22 : decode cX2_keepIfFewer 22 = .ok (.aload_n 0, 1) := by decide +kernel
theorem dX2_keepIfFewer_23 : decode cX2_keepIfFewer 23 = .ok (.getfield 9, 3) := by decide +kernel
theorem dX2_keepIfFewer_26 : decode cX2_keepIfFewer 26 = .ok (.iconst 0, 1) := by decide +kernel
theorem dX2_keepIfFewer_27 : decode cX2_keepIfFewer 27 = .ok (.aload_n 0, 1) := by decide +kernel
theorem dX2_keepIfFewer_28 : decode cX2_keepIfFewer 28 = .ok (.getfield 15, 3) := by decide +kernel
theorem dX2_keepIfFewer_31 : decode cX2_keepIfFewer 31 = .ok (.iconst 0, 1) := by decide +kernel
theorem dX2_keepIfFewer_32 : decode cX2_keepIfFewer 32 = .ok (.iconst 5, 1) := by decide +kernel
theorem dX2_keepIfFewer_33 : decode cX2_keepIfFewer 33 = .ok (.invokestatic 43, 3) := by decide +kernel
theorem dX2_keepIfFewer_36 : decode cX2_keepIfFewer 36 = .ok (.return_, 1) := by decide +kernel
theorem dX2_endOfPiece_0 : decode cX2_endOfPiece 0 = .ok (.iconst 0, 1) := by decide +kernel
theorem dX2_endOfPiece_1 : decode cX2_endOfPiece 1 = .ok (.istore_n 3, 1) := by decide +kernel
theorem dX2_endOfPiece_2 : decode cX2_endOfPiece 2 = .ok (.iload_n 2, 1) := by decide +kernel
theorem dX2_endOfPiece_3 : decode cX2_endOfPiece 3 = .ok (.istore 4, 2) := by decide +kernel
theorem dX2_endOfPiece_5 : decode cX2_endOfPiece 5 = .ok (.iload 4, 2) := by decide +kernel
theorem dX2_endOfPiece_7 : decode cX2_endOfPiece 7 = .ok (.bipush 12, 2) := by decide +kernel
theorem dX2_endOfPiece_9 : decode cX2_endOfPiece 9 = .ok (.if_icmp .gt 28, 3) := by decide +kernel
theorem dX2_endOfPiece_12 : decode cX2_endOfPiece 12 = .ok (.aload_n 0, 1) := by decide +kernel
theorem dX2_endOfPiece_13 : decode cX2_endOfPiece 13 = .ok (.iload_n 1, 1) := by decide +kernel
theorem dX2_endOfPiece_14 : decode cX2_endOfPiece 14 = .ok (.iload_n 3, 1) := by decide +kernel
theorem dX2_endOfPiece_15 : decode cX2_endOfPiece 15 = .ok (.invokevirtual 49, 3) := by decide +kernel
theorem dX2_endOfPiece_18 : decode cX2_endOfPiece 18 = .ok (.ifCond .eq 6, 3) := by decide +kernel
theorem dX2_endOfPiece_21 : decode cX2_endOfPiece 21 = .ok (.iload 4, 2) := by decide +kernel
theorem dX2_endOfPiece_23 : decode cX2_endOfPiece 23 = .ok (.ireturn, 1) := by decide +kernel
theorem dX2_endOfPiece_24 : decode cX2_endOfPiece 24 = .ok (.iload_n 3, 1) := by decide +kernel
theorem dX2_endOfPiece_25 : decode cX2_endOfPiece 25 = .ok (.iconst 1, 1) := by decide +kernel
theorem dX2_endOfPiece_26 : decode cX2_endOfPiece 26 = .ok (.iload 4, 2) := by decide +kernel
theorem dX2_endOfPiece_28 : decode cX2_endOfPiece 28 = .ok (.ishl, 1) := by decide +kernel
theorem dX2_endOfPiece_29 : decode cX2_endOfPiece 29 = .ok (.ior, 1) := by decide +kernel
theorem dX2_endOfPiece_30 : decode cX2_endOfPiece 30 = .ok (.istore_n 3, 1) := by decide +kernel
theorem dX2_endOfPiece_31 : decode cX2_endOfPiece 31 = .ok (.iinc 4 1, 3) := by decide +kernel
theorem dX2_endOfPiece_34 : decode cX2_endOfPiece 34 = .ok (.goto (-29), 3) := by decide +kernel
theorem dX2_endOfPiece_37 : decode cX2_endOfPiece 37 = .ok (.iconst (-1), 1) := by decide +kernel
theorem dX2_endOfPiece_38 : decode cX2_endOfPiece 38 = .ok (.ireturn, 1) := by decide +kernel
theorem dX3_init_0 : decode cX3_init 0 = .ok (.aload_n 0, 1) := by decide +kernel
theorem dX3_init_1 : decode cX3_init 1 = .ok (.invokespecial 1, 3) := by decide +kernel
theorem dX3_init_4 : decode cX3_init 4 = .ok (.return_, 1) := by decide +kernel
theorem dX3_ofCell_0 : decode cX3_ofCell 0 = .ok (.iconst 3, 1) := by decide +kernel
theorem dX3_ofCell_1 : decode cX3_ofCell 1 = .ok (.ireturn, 1) := by decide +kernel
theorem dX4_init_0 : decode cX4_init 0 = .ok (.aload_n 0, 1) := by decide +kernel
theorem dX4_init_1 : decode cX4_init 1 = .ok (.invokespecial 1, 3) := by decide +kernel
theorem dX4_init_4 : decode cX4_init 4 = .ok (.return_, 1) := by decide +kernel
theorem dX4_ofCell_0 : decode cX4_ofCell 0 = .ok (.aload_n 0, 1) := by decide +kernel
theorem dX4_ofCell_1 : decode cX4_ofCell 1 = .ok (.iload_n 1, 1) := by decide +kernel
theorem dX4_ofCell_2 : decode cX4_ofCell 2 = .ok (.iload_n 2, 1) := by decide +kernel
theorem dX4_ofCell_3 : decode cX4_ofCell 3 = .ok (.invokespecial 7, 3) := by decide +kernel
theorem dX4_ofCell_6 : decode cX4_ofCell 6 = .ok (.istore_n 3, 1) := by decide +kernel
theorem dX4_ofCell_7 : decode cX4_ofCell 7 = .ok (.iload_n 1, 1) := by decide +kernel
theorem dX4_ofCell_8 : decode cX4_ofCell 8 = .ok (.invokestatic 11, 3) := by decide +kernel
theorem dX4_ofCell_11 : decode cX4_ofCell 11 = .ok (.ifCond .eq 9, 3) := by decide +kernel
theorem dX4_ofCell_14 : decode cX4_ofCell 14 = .ok (.iconst 2, 1) := by decide +kernel
theorem dX4_ofCell_15 : decode cX4_ofCell 15 = .ok (.iload_n 3, 1) := by decide +kernel
theorem dX4_ofCell_16 : decode cX4_ofCell 16 = .ok (.imul, 1) := by decide +kernel
theorem dX4_ofCell_17 : decode cX4_ofCell 17 = .ok (.goto 4, 3) := by decide +kernel
theorem dX4_ofCell_20 : decode cX4_ofCell 20 = .ok (.iload_n 3, 1) := by decide +kernel
theorem dX4_ofCell_21 : decode cX4_ofCell 21 = .ok (.ireturn, 1) := by decide +kernel
theorem dX5_init_0 : decode cX5_init 0 = .ok (.aload_n 0, 1) := by decide +kernel
theorem dX5_init_1 : decode cX5_init 1 = .ok (.invokespecial 3, 3) := by decide +kernel
theorem dX5_init_4 : decode cX5_init 4 = .ok (.return_, 1) := by decide +kernel
theorem dX5_ofCell_0 : decode cX5_ofCell 0 = .ok (.aload_n 0, 1) := by decide +kernel
theorem dX5_ofCell_1 : decode cX5_ofCell 1 = .ok (.iload_n 1, 1) := by decide +kernel
theorem dX5_ofCell_2 : decode cX5_ofCell 2 = .ok (.iload_n 2, 1) := by decide +kernel
theorem dX5_ofCell_3 : decode cX5_ofCell 3 = .ok (.invokespecial 9, 3) := by decide +kernel
theorem dX5_ofCell_6 : decode cX5_ofCell 6 = .ok (.iconst 1, 1) := by decide +kernel
theorem dX5_ofCell_7 : decode cX5_ofCell 7 = .ok (.isub, 1) := by decide +kernel
theorem dX5_ofCell_8 : decode cX5_ofCell 8 = .ok (.istore_n 3, 1) := by decide +kernel
theorem dX5_ofCell_9 : decode cX5_ofCell 9 = .ok (.iload_n 1, 1) := by decide +kernel
theorem dX5_ofCell_10 : decode cX5_ofCell 10 = .ok (.bipush 11, 2) := by decide +kernel
theorem dX5_ofCell_12 : decode cX5_ofCell 12 = .ok (.if_icmp .ne 9, 3) := by decide +kernel
theorem dX5_ofCell_15 : decode cX5_ofCell 15 = .ok (.iload_n 3, 1) := by decide +kernel
theorem dX5_ofCell_16 : decode cX5_ofCell 16 = .ok (.iconst 3, 1) := by decide +kernel
theorem dX5_ofCell_17 : decode cX5_ofCell 17 = .ok (.iadd, 1) := by decide +kernel
theorem dX5_ofCell_18 : decode cX5_ofCell 18 = .ok (.goto 4, 3) := by decide +kernel
theorem dX5_ofCell_21 : decode cX5_ofCell 21 = .ok (.iload_n 3, 1) := by decide +kernel
theorem dX5_ofCell_22 : decode cX5_ofCell 22 = .ok (.ireturn, 1) := by decide +kernel
theorem dX6_init_0 : decode cX6_init 0 = .ok (.aload_n 0, 1) := by decide +kernel
theorem dX6_init_1 : decode cX6_init 1 = .ok (.invokespecial 1, 3) := by decide +kernel
theorem dX6_init_4 : decode cX6_init 4 = .ok (.return_, 1) := by decide +kernel
theorem dX6_ofCell_0 : decode cX6_ofCell 0 = .ok (.aload_n 0, 1) := by decide +kernel
theorem dX6_ofCell_1 : decode cX6_ofCell 1 = .ok (.iload_n 1, 1) := by decide +kernel
theorem dX6_ofCell_2 : decode cX6_ofCell 2 = .ok (.iload_n 2, 1) := by decide +kernel
theorem dX6_ofCell_3 : decode cX6_ofCell 3 = .ok (.invokespecial 7, 3) := by decide +kernel
theorem dX6_ofCell_6 : decode cX6_ofCell 6 = .ok (.istore_n 3, 1) := by decide +kernel
theorem dX6_ofCell_7 : decode cX6_ofCell 7 = .ok (.iload_n 2, 1) := by decide +kernel
theorem dX6_ofCell_8 : decode cX6_ofCell 8 = .ok (.ifCond .eq 9, 3) := by decide +kernel
theorem dX6_ofCell_11 : decode cX6_ofCell 11 = .ok (.iload_n 3, 1) := by decide +kernel
theorem dX6_ofCell_12 : decode cX6_ofCell 12 = .ok (.iconst 2, 1) := by decide +kernel
theorem dX6_ofCell_13 : decode cX6_ofCell 13 = .ok (.iadd, 1) := by decide +kernel
theorem dX6_ofCell_14 : decode cX6_ofCell 14 = .ok (.goto 4, 3) := by decide +kernel
theorem dX6_ofCell_17 : decode cX6_ofCell 17 = .ok (.iload_n 3, 1) := by decide +kernel
theorem dX6_ofCell_18 : decode cX6_ofCell 18 = .ok (.ireturn, 1) := by decide +kernel
theorem dX7_init_0 : decode cX7_init 0 = .ok (.aload_n 0, 1) := by decide +kernel
theorem dX7_init_1 : decode cX7_init 1 = .ok (.invokespecial 1, 3) := by decide +kernel
theorem dX7_init_4 : decode cX7_init 4 = .ok (.return_, 1) := by decide +kernel
theorem dX7_ofCell_0 : decode cX7_ofCell 0 = .ok (.aload_n 0, 1) := by decide +kernel
theorem dX7_ofCell_1 : decode cX7_ofCell 1 = .ok (.iload_n 1, 1) := by decide +kernel
theorem dX7_ofCell_2 : decode cX7_ofCell 2 = .ok (.iload_n 2, 1) := by decide +kernel
theorem dX7_ofCell_3 : decode cX7_ofCell 3 = .ok (.invokespecial 7, 3) := by decide +kernel
theorem dX7_ofCell_6 : decode cX7_ofCell 6 = .ok (.istore_n 3, 1) := by decide +kernel
theorem dX7_ofCell_7 : decode cX7_ofCell 7 = .ok (.iload_n 1, 1) := by decide +kernel
theorem dX7_ofCell_8 : decode cX7_ofCell 8 = .ok (.iconst 3, 1) := by decide +kernel
theorem dX7_ofCell_9 : decode cX7_ofCell 9 = .ok (.if_icmp .ge 9, 3) := by decide +kernel
theorem dX7_ofCell_12 : decode cX7_ofCell 12 = .ok (.iload_n 3, 1) := by decide +kernel
theorem dX7_ofCell_13 : decode cX7_ofCell 13 = .ok (.iconst 2, 1) := by decide +kernel
theorem dX7_ofCell_14 : decode cX7_ofCell 14 = .ok (.iadd, 1) := by decide +kernel
theorem dX7_ofCell_15 : decode cX7_ofCell 15 = .ok (.goto 4, 3) := by decide +kernel
theorem dX7_ofCell_18 : decode cX7_ofCell 18 = .ok (.iload_n 3, 1) := by decide +kernel
theorem dX7_ofCell_19 : decode cX7_ofCell 19 = .ok (.ireturn, 1) := by decide +kernel
theorem dX8_init_0 : decode cX8_init 0 = .ok (.aload_n 0, 1) := by decide +kernel
theorem dX8_init_1 : decode cX8_init 1 = .ok (.invokespecial 3, 3) := by decide +kernel
theorem dX8_init_4 : decode cX8_init 4 = .ok (.aload_n 0, 1) := by decide +kernel
theorem dX8_init_5 : decode cX8_init 5 = .ok (.sipush 150, 3) := by decide +kernel
theorem dX8_init_8 : decode cX8_init 8 = .ok (.newarray .byte, 2) := by decide +kernel
theorem dX8_init_10 : decode cX8_init 10 = .ok (.putfield 9, 3) := by decide +kernel
theorem dX8_init_13 : decode cX8_init 13 = .ok (.return_, 1) := by decide +kernel
theorem dX8_put_0 : decode cX8_put 0 = .ok (.aload_n 0, 1) := by decide +kernel
theorem dX8_put_1 : decode cX8_put 1 = .ok (.getfield 15, 3) := by decide +kernel
theorem dX8_put_4 : decode cX8_put 4 = .ok (.sipush 150, 3) := by decide +kernel
theorem dX8_put_7 : decode cX8_put 7 = .ok (.if_icmp .lt 6, 3) := by decide +kernel
theorem dX8_put_10 : decode cX8_put 10 = .ok (.bipush (-4), 2) := by decide +kernel
theorem dX8_put_12 : decode cX8_put 12 = .ok (.ireturn, 1) := by decide +kernel
theorem dX8_put_13 : decode cX8_put 13 = .ok (.aload_n 0, 1) := by decide +kernel
theorem dX8_put_14 : decode cX8_put 14 = .ok (.getfield 9, 3) := by decide +kernel
theorem dX8_put_17 : decode cX8_put 17 = .ok (.aload_n 0, 1) := by decide +kernel
theorem dX8_put_18 : decode cX8_put 18 = .ok (.getfield 15, 3) := by decide +kernel
theorem dX8_put_21 : decode cX8_put 21 = .ok (.iload_n 1, 1) := by decide +kernel
theorem dX8_put_22 : decode cX8_put 22 = .ok (.bastore, 1) := by decide +kernel
theorem dX8_put_23 : decode cX8_put 23 = .ok (.aload_n 0, 1) := by decide +kernel
theorem dX8_put_24 : decode cX8_put 24 = .ok (.dup, 1) := by decide +kernel
theorem dX8_put_25 : decode cX8_put 25 = .ok (.getfield 15, 3) := by decide +kernel
theorem dX8_put_28 : decode cX8_put 28 = .ok (.iconst 1, 1) := by decide +kernel
theorem dX8_put_29 : decode cX8_put 29 = .ok (.iadd, 1) := by decide +kernel
theorem dX8_put_30 : decode cX8_put 30 = .ok (.putfield 15, 3) := by decide +kernel
theorem dX8_put_33 : decode cX8_put 33 = .ok (.aload_n 0, 1) := by decide +kernel
theorem dX8_put_34 : decode cX8_put 34 = .ok (.getfield 15, 3) := by decide +kernel
theorem dX8_put_37 : decode cX8_put 37 = .ok (.ireturn, 1) := by decide +kernel
theorem dX8_tell_0 : decode cX8_tell 0 = .ok (.aload_n 0, 1) := by decide +kernel
theorem dX8_tell_1 : decode cX8_tell 1 = .ok (.iconst 0, 1) := by decide +kernel
theorem dX8_tell_2 : decode cX8_tell 2 = .ok (.putfield 19, 3) := by decide +kernel
theorem dX8_tell_5 : decode cX8_tell 5 = .ok (.aload_n 1, 1) := by decide +kernel
theorem dX8_tell_6 : decode cX8_tell 6 = .ok (.invokevirtual 22, 3) := by decide +kernel
theorem dX8_tell_9 : decode cX8_tell 9 = .ok (.aload_n 0, 1) := by decide +kernel
theorem dX8_tell_10 : decode cX8_tell 10 = .ok (.iconst 0, 1) := by decide +kernel
theorem dX8_tell_11 : decode cX8_tell 11 = .ok (.putfield 27, 3) := by decide +kernel
theorem dX8_tell_14 : decode cX8_tell 14 = .ok (.aload_n 0, 1) := by decide +kernel
theorem dX8_tell_15 : decode cX8_tell 15 = .ok (.getfield 27, 3) := by decide +kernel
theorem dX8_tell_18 : decode cX8_tell 18 = .ok (.aload_n 0, 1) := by decide +kernel
theorem dX8_tell_19 : decode cX8_tell 19 = .ok (.getfield 15, 3) := by decide +kernel
theorem dX8_tell_22 : decode cX8_tell 22 = .ok (.if_icmp .gt 55, 3) := by decide +kernel
theorem dX8_tell_25 : decode cX8_tell 25 = .ok (.aload_n 0, 1) := by decide +kernel
theorem dX8_tell_26 : decode cX8_tell 26 = .ok (.invokevirtual 30, 3) := by decide +kernel
theorem dX8_tell_29 : decode cX8_tell 29 = .ok (.aload_n 0, 1) := by decide +kernel
theorem dX8_tell_30 : decode cX8_tell 30 = .ok (.getfield 27, 3) := by decide +kernel
theorem dX8_tell_33 : decode cX8_tell 33 = .ok (.ifCond .le 15, 3) := by decide +kernel
theorem dX8_tell_36 : decode cX8_tell 36 = .ok (.aload_n 0, 1) := by decide +kernel
theorem dX8_tell_37 : decode cX8_tell 37 = .ok (.getfield 33, 3) := by decide +kernel
theorem dX8_tell_40 : decode cX8_tell 40 = .ok (.ifCond .ne 8, 3) := by decide +kernel
theorem dX8_tell_43 : decode cX8_tell 43 = .ok (.aload_n 0, 1) := by decide +kernel
theorem dX8_tell_44 : decode cX8_tell 44 = .ok (.getfield 27, 3) := by decide +kernel
theorem dX8_tell_47 : decode cX8_tell 47 = .ok (.ireturn, 1) := by decide +kernel
theorem dX8_tell_48 : decode cX8_tell 48 = .ok (.aload_n 0, 1) := by decide +kernel
theorem dX8_tell_49 : decode cX8_tell 49 = .ok (.aload_n 1, 1) := by decide +kernel
theorem dX8_tell_50 : decode cX8_tell 50 = .ok (.invokevirtual 36, 3) := by decide +kernel
theorem dX8_tell_53 : decode cX8_tell 53 = .ok (.ifCond .ne 11, 3) := by decide +kernel
theorem dX8_tell_56 : decode cX8_tell 56 = .ok (.bipush (-10), 2) := by decide +kernel
theorem dX8_tell_58 : decode cX8_tell 58 = .ok (.aload_n 0, 1) := by decide +kernel
theorem dX8_tell_59 : decode cX8_tell 59 = .ok (.getfield 40, 3) := by decide +kernel
theorem dX8_tell_62 : decode cX8_tell 62 = .ok (.isub, 1) := by decide +kernel
theorem dX8_tell_63 : decode cX8_tell 63 = .ok (.ireturn, 1) := by decide +kernel
theorem dX8_tell_64 : decode cX8_tell 64 = .ok (.aload_n 0, 1) := by decide +kernel
theorem dX8_tell_65 : decode cX8_tell 65 = .ok (.dup, 1) := by decide +kernel
theorem dX8_tell_66 : decode cX8_tell 66 = .ok (.getfield 27, 3) := by decide +kernel
theorem dX8_tell_69 : decode cX8_tell 69 = .ok (.iconst 1, 1) := by decide +kernel
theorem dX8_tell_70 : decode cX8_tell 70 = .ok (.iadd, 1) := by decide +kernel
theorem dX8_tell_71 : decode cX8_tell 71 = .ok (.putfield 27, 3) := by decide +kernel
theorem dX8_tell_74 : decode cX8_tell 74 = .ok (.goto (-60), 3) := by decide +kernel
theorem dX8_tell_77 : decode cX8_tell 77 = .ok (.aload_n 0, 1) := by decide +kernel
theorem dX8_tell_78 : decode cX8_tell 78 = .ok (.getfield 27, 3) := by decide +kernel
theorem dX8_tell_81 : decode cX8_tell 81 = .ok (.ireturn, 1) := by decide +kernel
theorem dX8_item_0 : decode cX8_item 0 = .ok (.aload_n 0, 1) := by decide +kernel
theorem dX8_item_1 : decode cX8_item 1 = .ok (.getfield 27, 3) := by decide +kernel
theorem dX8_item_4 : decode cX8_item 4 = .ok (.ifCond .ne 25, 3) := by decide +kernel
theorem dX8_item_7 : decode cX8_item 7 = .ok (.aload_n 0, 1) := by decide +kernel
theorem dX8_item_8 : decode cX8_item 8 = .ok (.ldc 43, 2) := by decide +kernel
theorem dX8_item_10 : decode cX8_item 10 = .ok (.invokevirtual 45, 3) := by decide +kernel
theorem dX8_item_13 : decode cX8_item 13 = .ok (.ifCond .eq 14, 3) := by decide +kernel
theorem dX8_item_16 : decode cX8_item 16 = .ok (.aload_n 0, 1) := by decide +kernel
theorem dX8_item_17 : decode cX8_item 17 = .ok (.invokevirtual 49, 3) := by decide +kernel
theorem dX8_item_20 : decode cX8_item 20 = .ok (.ifCond .eq 7, 3) := by decide +kernel
theorem dX8_item_23 : decode cX8_item 23 = .ok (.iconst 1, 1) := by decide +kernel
theorem dX8_item_24 : decode cX8_item 24 = .ok (.goto 4, 3) := by decide +kernel
theorem dX8_item_27 : decode cX8_item 27 = .ok (.iconst 0, 1) := by decide +kernel
theorem dX8_item_28 : decode cX8_item 28 = .ok (.ireturn, 1) := by decide +kernel
theorem dX8_item_29 : decode cX8_item 29 = .ok (.aload_n 0, 1) := by decide +kernel
theorem dX8_item_30 : decode cX8_item 30 = .ok (.ldc 53, 2) := by decide +kernel
theorem dX8_item_32 : decode cX8_item 32 = .ok (.invokevirtual 45, 3) := by decide +kernel
theorem dX8_item_35 : decode cX8_item 35 = .ok (.ifCond .eq 9, 3) := by decide +kernel
theorem dX8_item_38 : decode cX8_item 38 = .ok (.aload_n 0, 1) := by decide +kernel
theorem dX8_item_39 : decode cX8_item 39 = .ok (.aload_n 1, 1) := by decide +kernel
theorem dX8_item_40 : decode cX8_item 40 = .ok (.invokevirtual 55, 3) := by decide +kernel
theorem dX8_item_43 : decode cX8_item 43 = .ok (.ireturn, 1) := by decide +kernel
theorem dX8_item_44 : decode cX8_item 44 = .ok (.aload_n 0, 1) := by decide +kernel
theorem dX8_item_45 : decode cX8_item 45 = .ok (.ldc 58, 2) := by decide +kernel
theorem dX8_item_47 : decode cX8_item 47 = .ok (.invokevirtual 45, 3) := by decide +kernel
theorem dX8_item_50 : decode cX8_item 50 = .ok (.ifCond .eq 15, 3) := by decide +kernel
theorem dX8_item_53 : decode cX8_item 53 = .ok (.aload_n 0, 1) := by decide +kernel
theorem dX8_item_54 : decode cX8_item 54 = .ok (.aload_n 1, 1) := by decide +kernel
theorem dX8_item_55 : decode cX8_item 55 = .ok (.invokevirtual 60, 3) := by decide +kernel
theorem dX8_item_58 : decode cX8_item 58 = .ok (.ifCond .eq 7, 3) := by decide +kernel
theorem dX8_item_61 : decode cX8_item 61 = .ok (.iconst 1, 1) := by decide +kernel
theorem dX8_item_62 : decode cX8_item 62 = .ok (.goto 4, 3) := by decide +kernel
theorem dX8_item_65 : decode cX8_item 65 = .ok (.iconst 0, 1) := by decide +kernel
theorem dX8_item_66 : decode cX8_item 66 = .ok (.ireturn, 1) := by decide +kernel
theorem dX8_boyItem_0 : decode cX8_boyItem 0 = .ok (.aload_n 1, 1) := by decide +kernel
theorem dX8_boyItem_1 : decode cX8_boyItem 1 = .ok (.getfield 63, 3) := by decide +kernel
theorem dX8_boyItem_4 : decode cX8_boyItem 4 = .ok (.iconst 5, 1) := by decide +kernel
theorem dX8_boyItem_5 : decode cX8_boyItem 5 = .ok (.if_icmp .lt 5, 3) := by decide +kernel
theorem dX8_boyItem_8 : decode cX8_boyItem 8 = .ok (.iconst 0, 1) := by decide +kernel
theorem dX8_boyItem_9 : decode cX8_boyItem 9 = .ok (.ireturn, 1) := by decide +kernel
theorem dX8_boyItem_10 : decode cX8_boyItem 10 = .ok (.aload_n 0, 1) := by decide +kernel
theorem dX8_boyItem_11 : decode cX8_boyItem 11 = .ok (.iconst 5, 1) := by decide +kernel
theorem dX8_boyItem_12 : decode cX8_boyItem 12 = .ok (.invokevirtual 66, 3) := by decide +kernel
theorem dX8_boyItem_15 : decode cX8_boyItem 15 = .ok (.istore_n 2, 1) := by decide +kernel
theorem dX8_boyItem_16 : decode cX8_boyItem 16 = .ok (.iload_n 2, 1) := by decide +kernel
theorem dX8_boyItem_17 : decode cX8_boyItem 17 = .ok (.iconst (-1), 1) := by decide +kernel
theorem dX8_boyItem_18 : decode cX8_boyItem 18 = .ok (.if_icmp .ne 5, 3) := by decide +kernel
theorem dX8_boyItem_21 : decode cX8_boyItem 21 = .ok (.iconst 0, 1) := by decide +kernel
theorem dX8_boyItem_22 : decode cX8_boyItem 22 = .ok (.ireturn, 1) := by decide +kernel
theorem dX8_boyItem_23 : decode cX8_boyItem 23 = .ok (.aload_n 0, 1) := by decide +kernel
theorem dX8_boyItem_24 : decode cX8_boyItem 24 = .ok (.bipush 12, 2) := by decide +kernel
theorem dX8_boyItem_26 : decode cX8_boyItem 26 = .ok (.invokevirtual 66, 3) := by decide +kernel
theorem dX8_boyItem_29 : decode cX8_boyItem 29 = .ok (.istore_n 3, 1) := by decide +kernel
theorem dX8_boyItem_30 : decode cX8_boyItem 30 = .ok (.iload_n 3, 1) := by decide +kernel
theorem dX8_boyItem_31 : decode cX8_boyItem 31 = .ok (.iconst (-1), 1) := by decide +kernel
theorem dX8_boyItem_32 : decode cX8_boyItem 32 = .ok (.if_icmp .ne 5, 3) := by decide +kernel
theorem dX8_boyItem_35 : decode cX8_boyItem 35 = .ok (.iconst 0, 1) := by decide +kernel
theorem dX8_boyItem_36 : decode cX8_boyItem 36 = .ok (.ireturn, 1) := by decide +kernel
theorem dX8_boyItem_37 : decode cX8_boyItem 37 = .ok (.aload_n 0, 1) := by decide +kernel
theorem dX8_boyItem_38 : decode cX8_boyItem 38 = .ok (.bipush 40, 2) := by decide +kernel
theorem dX8_boyItem_40 : decode cX8_boyItem 40 = .ok (.invokevirtual 66, 3) := by decide +kernel
theorem dX8_boyItem_43 : decode cX8_boyItem 43 = .ok (.istore 4, 2) := by decide +kernel
theorem dX8_boyItem_45 : decode cX8_boyItem 45 = .ok (.iload 4, 2) := by decide +kernel
theorem dX8_boyItem_47 : decode cX8_boyItem 47 = .ok (.iconst (-1), 1) := by decide +kernel
theorem dX8_boyItem_48 : decode cX8_boyItem 48 = .ok (.if_icmp .eq 10, 3) := by decide +kernel
theorem dX8_boyItem_51 : decode cX8_boyItem 51 = .ok (.aload_n 0, 1) := by decide +kernel
theorem dX8_boyItem_52 : decode cX8_boyItem 52 = .ok (.invokevirtual 49, 3) := by decide +kernel
theorem dX8_boyItem_55 : decode cX8_boyItem 55 = .ok (.ifCond .ne 5, 3) := by decide +kernel
theorem dX8_boyItem_58 : decode cX8_boyItem 58 = .ok (.iconst 0, 1) := by decide +kernel
theorem dX8_boyItem_59 : decode cX8_boyItem 59 = .ok (.ireturn, 1) := by decide +kernel
theorem dX8_boyItem_60 : decode cX8_boyItem 60 = .ok (.aload_n 1, 1) := by decide +kernel
theorem dX8_boyItem_61 : decode cX8_boyItem 61 = .ok (.iload_n 2, 1) := by decide +kernel
theorem dX8_boyItem_62 : decode cX8_boyItem 62 = .ok (.iload_n 3, 1) := by decide +kernel
theorem dX8_boyItem_63 : decode cX8_boyItem 63 = .ok (.iload 4, 2) := by decide +kernel
theorem dX8_boyItem_65 : decode cX8_boyItem 65 = .ok (.invokevirtual 70, 3) := by decide +kernel
theorem dX8_boyItem_68 : decode cX8_boyItem 68 = .ok (.pop, 1) := by decide +kernel
theorem dX8_boyItem_69 : decode cX8_boyItem 69 = .ok (.iconst 1, 1) := by decide +kernel
theorem dX8_boyItem_70 : decode cX8_boyItem 70 = .ok (.ireturn, 1) := by decide +kernel
theorem dX8_cellsItem_0 : decode cX8_cellsItem 0 = .ok (.aload_n 0, 1) := by decide +kernel
theorem dX8_cellsItem_1 : decode cX8_cellsItem 1 = .ok (.aload_n 1, 1) := by decide +kernel
theorem dX8_cellsItem_2 : decode cX8_cellsItem 2 = .ok (.getfield 63, 3) := by decide +kernel
theorem dX8_cellsItem_5 : decode cX8_cellsItem 5 = .ok (.iconst 1, 1) := by decide +kernel
theorem dX8_cellsItem_6 : decode cX8_cellsItem 6 = .ok (.isub, 1) := by decide +kernel
theorem dX8_cellsItem_7 : decode cX8_cellsItem 7 = .ok (.invokevirtual 66, 3) := by decide +kernel
theorem dX8_cellsItem_10 : decode cX8_cellsItem 10 = .ok (.istore_n 2, 1) := by decide +kernel
theorem dX8_cellsItem_11 : decode cX8_cellsItem 11 = .ok (.iload_n 2, 1) := by decide +kernel
theorem dX8_cellsItem_12 : decode cX8_cellsItem 12 = .ok (.iconst (-1), 1) := by decide +kernel
theorem dX8_cellsItem_13 : decode cX8_cellsItem 13 = .ok (.if_icmp .ne 5, 3) := by decide +kernel
theorem dX8_cellsItem_16 : decode cX8_cellsItem 16 = .ok (.iconst 0, 1) := by decide +kernel
theorem dX8_cellsItem_17 : decode cX8_cellsItem 17 = .ok (.ireturn, 1) := by decide +kernel
theorem dX8_cellsItem_18 : decode cX8_cellsItem 18 = .ok (.aload_n 0, 1) := by decide +kernel
theorem dX8_cellsItem_19 : decode cX8_cellsItem 19 = .ok (.bipush 11, 2) := by decide +kernel
theorem dX8_cellsItem_21 : decode cX8_cellsItem 21 = .ok (.invokevirtual 66, 3) := by decide +kernel
theorem dX8_cellsItem_24 : decode cX8_cellsItem 24 = .ok (.istore_n 3, 1) := by decide +kernel
theorem dX8_cellsItem_25 : decode cX8_cellsItem 25 = .ok (.iconst 0, 1) := by decide +kernel
theorem dX8_cellsItem_26 : decode cX8_cellsItem 26 = .ok (.istore 4, 2) := by decide +kernel
theorem dX8_cellsItem_28 : decode cX8_cellsItem 28 = .ok (.iload_n 3, 1) := by decide +kernel
theorem dX8_cellsItem_29 : decode cX8_cellsItem 29 = .ok (.iconst (-1), 1) := by decide +kernel
theorem dX8_cellsItem_30 : decode cX8_cellsItem 30 = .ok (.if_icmp .eq 32, 3) := by decide +kernel
theorem dX8_cellsItem_33 : decode cX8_cellsItem 33 = .ok (.iload 4, 2) := by decide +kernel
theorem dX8_cellsItem_35 : decode cX8_cellsItem 35 = .ok (.aload_n 0, 1) := by decide +kernel
theorem dX8_cellsItem_36 : decode cX8_cellsItem 36 = .ok (.getfield 15, 3) := by decide +kernel
theorem dX8_cellsItem_39 : decode cX8_cellsItem 39 = .ok (.if_icmp .ge 23, 3) := by decide +kernel
theorem dX8_cellsItem_42 : decode cX8_cellsItem 42 = .ok (.aload_n 1, 1) := by decide +kernel
theorem dX8_cellsItem_43 : decode cX8_cellsItem 43 = .ok (.getfield 74, 3) := by decide +kernel
theorem dX8_cellsItem_46 : decode cX8_cellsItem 46 = .ok (.iload_n 3, 1) := by decide +kernel
theorem dX8_cellsItem_47 : decode cX8_cellsItem 47 = .ok (.iload_n 2, 1) := by decide +kernel
theorem dX8_cellsItem_48 : decode cX8_cellsItem 48 = .ok (.iastore, 1) := by decide +kernel
theorem dX8_cellsItem_49 : decode cX8_cellsItem 49 = .ok (.aload_n 0, 1) := by decide +kernel
theorem dX8_cellsItem_50 : decode cX8_cellsItem 50 = .ok (.bipush 11, 2) := by decide +kernel
theorem dX8_cellsItem_52 : decode cX8_cellsItem 52 = .ok (.invokevirtual 66, 3) := by decide +kernel
theorem dX8_cellsItem_55 : decode cX8_cellsItem 55 = .ok (.istore_n 3, 1) := by decide +kernel
theorem dX8_cellsItem_56 : decode cX8_cellsItem 56 = .ok (.iinc 4 1, 3) := by decide +kernel
theorem dX8_cellsItem_59 : decode cX8_cellsItem 59 = .ok (.goto (-31), 3) := by decide +kernel
theorem dX8_cellsItem_62 : decode cX8_cellsItem 62 = .ok (.aload_n 0, 1) := by decide +kernel
theorem dX8_cellsItem_63 : decode cX8_cellsItem 63 = .ok (.getfield 33, 3) := by decide +kernel
theorem dX8_cellsItem_66 : decode cX8_cellsItem 66 = .ok (.iconst 3, 1) := by decide +kernel
theorem dX8_cellsItem_67 : decode cX8_cellsItem 67 = .ok (.if_icmp .ne 7, 3) := by decide +kernel
theorem dX8_cellsItem_70 : decode cX8_cellsItem 70 = .ok (.iconst 1, 1) := by decide +kernel
theorem dX8_cellsItem_71 : decode cX8_cellsItem 71 = .ok (.goto 4, 3) := by decide +kernel
theorem dX8_cellsItem_74 : decode cX8_cellsItem 74 = .ok (.iconst 0, 1) := by decide +kernel
theorem dX8_cellsItem_75 : decode cX8_cellsItem 75 = .ok (.ireturn, 1) := by decide +kernel
theorem dX8_stops_0 : decode cX8_stops 0 = .ok (.aload_n 0, 1) := by decide +kernel
theorem dX8_stops_1 : decode cX8_stops 1 = .ok (.invokevirtual 30, 3) := by decide +kernel
theorem dX8_stops_4 : decode cX8_stops 4 = .ok (.aload_n 0, 1) := by decide +kernel
theorem dX8_stops_5 : decode cX8_stops 5 = .ok (.getfield 33, 3) := by decide +kernel
theorem dX8_stops_8 : decode cX8_stops 8 = .ok (.iconst 3, 1) := by decide +kernel
theorem dX8_stops_9 : decode cX8_stops 9 = .ok (.if_icmp .ne 7, 3) := by decide +kernel
theorem dX8_stops_12 : decode cX8_stops 12 = .ok (.iconst 1, 1) := by decide +kernel
theorem dX8_stops_13 : decode cX8_stops 13 = .ok (.goto 4, 3) := by decide +kernel
theorem dX8_stops_16 : decode cX8_stops 16 = .ok (.iconst 0, 1) := by decide +kernel
theorem dX8_stops_17 : decode cX8_stops 17 = .ok (.ireturn, 1) := by decide +kernel
theorem dX8_number_0 : decode cX8_number 0 = .ok (.aload_n 0, 1) := by decide +kernel
theorem dX8_number_1 : decode cX8_number 1 = .ok (.invokevirtual 30, 3) := by decide +kernel
theorem dX8_number_4 : decode cX8_number 4 = .ok (.aload_n 0, 1) := by decide +kernel
theorem dX8_number_5 : decode cX8_number 5 = .ok (.getfield 33, 3) := by decide +kernel
theorem dX8_number_8 : decode cX8_number 8 = .ok (.iconst 2, 1) := by decide +kernel
theorem dX8_number_9 : decode cX8_number 9 = .ok (.if_icmp .eq 5, 3) := by decide +kernel
theorem dX8_number_12 : decode cX8_number 12 = .ok (.iconst (-1), 1) := by decide +kernel
theorem dX8_number_13 : decode cX8_number 13 = .ok (.ireturn, 1) := by decide +kernel
theorem dX8_number_14 : decode cX8_number 14 = .ok (.iconst 0, 1) := by decide +kernel
theorem dX8_number_15 : decode cX8_number 15 = .ok (.istore_n 2, 1) := by decide +kernel
theorem dX8_number_16 : decode cX8_number 16 = .ok (.aload_n 0, 1) := by decide +kernel
theorem dX8_number_17 : decode cX8_number 17 = .ok (.getfield 40, 3) := by decide +kernel
theorem dX8_number_20 : decode cX8_number 20 = .ok (.istore_n 3, 1) := by decide +kernel
theorem dX8_number_21 : decode cX8_number 21 = .ok (.iload_n 3, 1) := by decide +kernel
theorem dX8_number_22 : decode cX8_number 22 = .ok (.aload_n 0, 1) := by decide +kernel
theorem dX8_number_23 : decode cX8_number 23 = .ok (.getfield 19, 3) := by decide +kernel
theorem dX8_number_26 : decode cX8_number 26 = .ok (.if_icmp .ge 32, 3) := by decide +kernel
theorem dX8_number_29 : decode cX8_number 29 = .ok (.iload_n 3, 1) := by decide +kernel
theorem dX8_number_30 : decode cX8_number 30 = .ok (.aload_n 0, 1) := by decide +kernel
theorem dX8_number_31 : decode cX8_number 31 = .ok (.getfield 15, 3) := by decide +kernel
theorem dX8_number_34 : decode cX8_number 34 = .ok (.if_icmp .ge 24, 3) := by decide +kernel
theorem dX8_number_37 : decode cX8_number 37 = .ok (.bipush 10, 2) := by decide +kernel
theorem dX8_number_39 : decode cX8_number 39 = .ok (.iload_n 2, 1) := by decide +kernel
theorem dX8_number_40 : decode cX8_number 40 = .ok (.imul, 1) := by decide +kernel
theorem dX8_number_41 : decode cX8_number 41 = .ok (.aload_n 0, 1) := by decide +kernel
theorem dX8_number_42 : decode cX8_number 42 = .ok (.getfield 9, 3) := by decide +kernel
theorem dX8_number_45 : decode cX8_number 45 = .ok (.iload_n 3, 1) := by decide +kernel
theorem dX8_number_46 : decode cX8_number 46 = .ok (.baload, 1) := by decide +kernel
theorem dX8_number_47 : decode cX8_number 47 = .ok (.iadd, 1) := by decide +kernel
theorem dX8_number_48 : decode cX8_number 48 = .ok (.bipush 48, 2) := by decide +kernel
theorem dX8_number_50 : decode cX8_number 50 = .ok (.isub, 1) := by decide +kernel
theorem dX8_number_51 : decode cX8_number 51 = .ok (.istore_n 2, 1) := by decide +kernel
theorem dX8_number_52 : decode cX8_number 52 = .ok (.iinc 3 1, 3) := by decide +kernel
theorem dX8_number_55 : decode cX8_number 55 = .ok (.goto (-34), 3) := by decide +kernel
theorem dX8_number_58 : decode cX8_number 58 = .ok (.iload_n 2, 1) := by decide +kernel
theorem dX8_number_59 : decode cX8_number 59 = .ok (.iload_n 1, 1) := by decide +kernel
theorem dX8_number_60 : decode cX8_number 60 = .ok (.if_icmp .gt 7, 3) := by decide +kernel
theorem dX8_number_63 : decode cX8_number 63 = .ok (.iload_n 2, 1) := by decide +kernel
theorem dX8_number_64 : decode cX8_number 64 = .ok (.goto 4, 3) := by decide +kernel
theorem dX8_number_67 : decode cX8_number 67 = .ok (.iconst (-1), 1) := by decide +kernel
theorem dX8_number_68 : decode cX8_number 68 = .ok (.ireturn, 1) := by decide +kernel
theorem dX8_isWord_0 : decode cX8_isWord 0 = .ok (.aload_n 0, 1) := by decide +kernel
theorem dX8_isWord_1 : decode cX8_isWord 1 = .ok (.getfield 33, 3) := by decide +kernel
theorem dX8_isWord_4 : decode cX8_isWord 4 = .ok (.iconst 1, 1) := by decide +kernel
theorem dX8_isWord_5 : decode cX8_isWord 5 = .ok (.if_icmp .ne 19, 3) := by decide +kernel
theorem dX8_isWord_8 : decode cX8_isWord 8 = .ok (.aload_n 0, 1) := by decide +kernel
theorem dX8_isWord_9 : decode cX8_isWord 9 = .ok (.getfield 19, 3) := by decide +kernel
theorem dX8_isWord_12 : decode cX8_isWord 12 = .ok (.aload_n 0, 1) := by decide +kernel
theorem dX8_isWord_13 : decode cX8_isWord 13 = .ok (.getfield 40, 3) := by decide +kernel
theorem dX8_isWord_16 : decode cX8_isWord 16 = .ok (.isub, 1) := by decide +kernel
theorem dX8_isWord_17 : decode cX8_isWord 17 = .ok (.aload_n 1, 1) := by decide +kernel
theorem dX8_isWord_18 : decode cX8_isWord 18 = .ok (.invokevirtual 78, 3) := by decide +kernel
theorem dX8_isWord_21 : decode cX8_isWord 21 = .ok (.if_icmp .eq 5, 3) := by decide +kernel
theorem dX8_isWord_24 : decode cX8_isWord 24 = .ok (.iconst 0, 1) := by decide +kernel
theorem dX8_isWord_25 : decode cX8_isWord 25 = .ok (.ireturn, 1) := by decide +kernel
theorem dX8_isWord_26 : decode cX8_isWord 26 = .ok (.iconst 0, 1) := by decide +kernel
theorem dX8_isWord_27 : decode cX8_isWord 27 = .ok (.istore_n 2, 1) := by decide +kernel
theorem dX8_isWord_28 : decode cX8_isWord 28 = .ok (.iload_n 2, 1) := by decide +kernel
theorem dX8_isWord_29 : decode cX8_isWord 29 = .ok (.aload_n 1, 1) := by decide +kernel
theorem dX8_isWord_30 : decode cX8_isWord 30 = .ok (.invokevirtual 78, 3) := by decide +kernel
theorem dX8_isWord_33 : decode cX8_isWord 33 = .ok (.if_icmp .ge 43, 3) := by decide +kernel
theorem dX8_isWord_36 : decode cX8_isWord 36 = .ok (.aload_n 0, 1) := by decide +kernel
theorem dX8_isWord_37 : decode cX8_isWord 37 = .ok (.getfield 40, 3) := by decide +kernel
theorem dX8_isWord_40 : decode cX8_isWord 40 = .ok (.iload_n 2, 1) := by decide +kernel
theorem dX8_isWord_41 : decode cX8_isWord 41 = .ok (.iadd, 1) := by decide +kernel
theorem dX8_isWord_42 : decode cX8_isWord 42 = .ok (.aload_n 0, 1) := by decide +kernel
theorem dX8_isWord_43 : decode cX8_isWord 43 = .ok (.getfield 15, 3) := by decide +kernel
theorem dX8_isWord_46 : decode cX8_isWord 46 = .ok (.if_icmp .ge 22, 3) := by decide +kernel
theorem dX8_isWord_49 : decode cX8_isWord 49 = .ok (.aload_n 0, 1) := by decide +kernel
theorem dX8_isWord_50 : decode cX8_isWord 50 = .ok (.getfield 9, 3) := by decide +kernel
theorem dX8_isWord_53 : decode cX8_isWord 53 = .ok (.aload_n 0, 1) := by decide +kernel
theorem dX8_isWord_54 : decode cX8_isWord 54 = .ok (.getfield 40, 3) := by decide +kernel
theorem dX8_isWord_57 : decode cX8_isWord 57 = .ok (.iload_n 2, 1) := by decide +kernel
theorem dX8_isWord_58 : decode cX8_isWord 58 = .ok (.iadd, 1) := by decide +kernel
theorem dX8_isWord_59 : decode cX8_isWord 59 = .ok (.baload, 1) := by decide +kernel
theorem dX8_isWord_60 : decode cX8_isWord 60 = .ok (.aload_n 1, 1) := by decide +kernel
theorem dX8_isWord_61 : decode cX8_isWord 61 = .ok (.iload_n 2, 1) := by decide +kernel
theorem dX8_isWord_62 : decode cX8_isWord 62 = .ok (.invokevirtual 83, 3) := by decide +kernel
theorem dX8_isWord_65 : decode cX8_isWord 65 = .ok (.if_icmp .eq 5, 3) := by decide +kernel
theorem dX8_isWord_68 : decode cX8_isWord 68 = .ok (.iconst 0, 1) := by decide +kernel
theorem dX8_isWord_69 : decode cX8_isWord 69 = .ok (.ireturn, 1) := by decide +kernel
theorem dX8_isWord_70 : decode cX8_isWord 70 = .ok (.iinc 2 1, 3) := by decide +kernel
theorem dX8_isWord_73 : decode cX8_isWord 73 = .ok (.goto (-45), 3) := by decide +kernel
theorem dX8_isWord_76 : decode cX8_isWord 76 = .ok (.iconst 1, 1) := by decide +kernel
theorem dX8_isWord_77 : decode cX8_isWord 77 = .ok (.ireturn, 1) := by decide +kernel
theorem dX8_next_0 : decode cX8_next 0 = .ok (.aload_n 0, 1) := by decide +kernel
theorem dX8_next_1 : decode cX8_next 1 = .ok (.getfield 19, 3) := by decide +kernel
theorem dX8_next_4 : decode cX8_next 4 = .ok (.aload_n 0, 1) := by decide +kernel
theorem dX8_next_5 : decode cX8_next 5 = .ok (.getfield 15, 3) := by decide +kernel
theorem dX8_next_8 : decode cX8_next 8 = .ok (.if_icmp .ge 30, 3) := by decide +kernel
theorem dX8_next_11 : decode cX8_next 11 = .ok (.aload_n 0, 1) := by decide +kernel
theorem dX8_next_12 : decode cX8_next 12 = .ok (.getfield 9, 3) := by decide +kernel
theorem dX8_next_15 : decode cX8_next 15 = .ok (.aload_n 0, 1) := by decide +kernel
theorem dX8_next_16 : decode cX8_next 16 = .ok (.getfield 19, 3) := by decide +kernel
theorem dX8_next_19 : decode cX8_next 19 = .ok (.baload, 1) := by decide +kernel
theorem dX8_next_20 : decode cX8_next 20 = .ok (.bipush 32, 2) := by decide +kernel
theorem dX8_next_22 : decode cX8_next 22 = .ok (.if_icmp .ne 16, 3) := by decide +kernel
theorem dX8_next_25 : decode cX8_next 25 = .ok (.aload_n 0, 1) := by decide +kernel
theorem dX8_next_26 : decode cX8_next 26 = .ok (.dup, 1) := by decide +kernel
theorem dX8_next_27 : decode cX8_next 27 = .ok (.getfield 19, 3) := by decide +kernel
theorem dX8_next_30 : decode cX8_next 30 = .ok (.iconst 1, 1) := by decide +kernel
theorem dX8_next_31 : decode cX8_next 31 = .ok (.iadd, 1) := by decide +kernel
theorem dX8_next_32 : decode cX8_next 32 = .ok (.putfield 19, 3) := by decide +kernel
theorem dX8_next_35 : decode cX8_next 35 = .ok (.goto (-35), 3) := by decide +kernel
theorem dX8_next_38 : decode cX8_next 38 = .ok (.aload_n 0, 1) := by decide +kernel
theorem dX8_next_39 : decode cX8_next 39 = .ok (.aload_n 0, 1) := by decide +kernel
theorem dX8_next_40 : decode cX8_next 40 = .ok (.getfield 19, 3) := by decide +kernel
theorem dX8_next_43 : decode cX8_next 43 = .ok (.putfield 40, 3) := by decide +kernel
theorem dX8_next_46 : decode cX8_next 46 = .ok (.aload_n 0, 1) := by decide +kernel
theorem dX8_next_47 : decode cX8_next 47 = .ok (.aload_n 0, 1) := by decide +kernel
theorem dX8_next_48 : decode cX8_next 48 = .ok (.invokevirtual 87, 3) := by decide +kernel
theorem dX8_next_51 : decode cX8_next 51 = .ok (.putfield 33, 3) := by decide +kernel
theorem dX8_next_54 : decode cX8_next 54 = .ok (.return_, 1) := by decide +kernel
theorem dX8_tokenAt_0 : decode cX8_tokenAt 0 = .ok (.aload_n 0, 1) := by decide +kernel
theorem dX8_tokenAt_1 : decode cX8_tokenAt 1 = .ok (.getfield 19, 3) := by decide +kernel
theorem dX8_tokenAt_4 : decode cX8_tokenAt 4 = .ok (.aload_n 0, 1) := by decide +kernel
theorem dX8_tokenAt_5 : decode cX8_tokenAt 5 = .ok (.getfield 15, 3) := by decide +kernel
theorem dX8_tokenAt_8 : decode cX8_tokenAt 8 = .ok (.if_icmp .lt 5, 3) := by decide +kernel
theorem dX8_tokenAt_11 : decode cX8_tokenAt 11 = .ok (.iconst 0, 1) := by decide +kernel
theorem dX8_tokenAt_12 : decode cX8_tokenAt 12 = .ok (.ireturn, 1) := by decide +kernel
theorem dX8_tokenAt_13 : decode cX8_tokenAt 13 = .ok (.aload_n 0, 1) := by decide +kernel
theorem dX8_tokenAt_14 : decode cX8_tokenAt 14 = .ok (.getfield 9, 3) := by decide +kernel
theorem dX8_tokenAt_17 : decode cX8_tokenAt 17 = .ok (.aload_n 0, 1) := by decide +kernel
theorem dX8_tokenAt_18 : decode cX8_tokenAt 18 = .ok (.getfield 19, 3) := by decide +kernel
theorem dX8_tokenAt_21 : decode cX8_tokenAt 21 = .ok (.baload, 1) := by decide +kernel
theorem dX8_tokenAt_22 : decode cX8_tokenAt 22 = .ok (.invokestatic 90, 3) := by decide +kernel
theorem dX8_tokenAt_25 : decode cX8_tokenAt 25 = .ok (.ifCond .eq 44, 3) := by decide +kernel
theorem dX8_tokenAt_28 : decode cX8_tokenAt 28 = .ok (.aload_n 0, 1) := by decide +kernel
theorem dX8_tokenAt_29 : decode cX8_tokenAt 29 = .ok (.getfield 19, 3) := by decide +kernel
theorem dX8_tokenAt_32 : decode cX8_tokenAt 32 = .ok (.aload_n 0, 1) := by decide +kernel
theorem dX8_tokenAt_33 : decode cX8_tokenAt 33 = .ok (.getfield 15, 3) := by decide +kernel
theorem dX8_tokenAt_36 : decode cX8_tokenAt 36 = .ok (.if_icmp .ge 31, 3) := by decide +kernel
theorem dX8_tokenAt_39 : decode cX8_tokenAt 39 = .ok (.aload_n 0, 1) := by decide +kernel
theorem dX8_tokenAt_40 : decode cX8_tokenAt 40 = .ok (.getfield 9, 3) := by decide +kernel
theorem dX8_tokenAt_43 : decode cX8_tokenAt 43 = .ok (.aload_n 0, 1) := by decide +kernel
theorem dX8_tokenAt_44 : decode cX8_tokenAt 44 = .ok (.getfield 19, 3) := by decide +kernel
theorem dX8_tokenAt_47 : decode cX8_tokenAt 47 = .ok (.baload, 1) := by decide +kernel
theorem dX8_tokenAt_48 : decode cX8_tokenAt 48 = .ok (.invokestatic 90, 3) := by decide +kernel
theorem dX8_tokenAt_51 : decode cX8_tokenAt 51 = .ok (.ifCond .eq 16, 3) := by decide +kernel
theorem dX8_tokenAt_54 : decode cX8_tokenAt 54 = .ok (.aload_n 0, 1) := by decide +kernel
theorem dX8_tokenAt_55 : decode cX8_tokenAt 55 = .ok (.dup, 1) := by decide +kernel
theorem dX8_tokenAt_56 : decode cX8_tokenAt 56 = .ok (.getfield 19, 3) := by decide +kernel
theorem dX8_tokenAt_59 : decode cX8_tokenAt 59 = .ok (.iconst 1, 1) := by decide +kernel
theorem dX8_tokenAt_60 : decode cX8_tokenAt 60 = .ok (.iadd, 1) := by decide +kernel
theorem dX8_tokenAt_61 : decode cX8_tokenAt 61 = .ok (.putfield 19, 3) := by decide +kernel
theorem dX8_tokenAt_64 : decode cX8_tokenAt 64 = .ok (.goto (-36), 3) := by decide +kernel
theorem dX8_tokenAt_67 : decode cX8_tokenAt 67 = .ok (.iconst 1, 1) := by decide +kernel
theorem dX8_tokenAt_68 : decode cX8_tokenAt 68 = .ok (.ireturn, 1) := by decide +kernel
theorem dX8_tokenAt_69 : decode cX8_tokenAt 69 = .ok (.aload_n 0, 1) := by decide +kernel
theorem dX8_tokenAt_70 : decode cX8_tokenAt 70 = .ok (.getfield 9, 3) := by decide +kernel
theorem dX8_tokenAt_73 : decode cX8_tokenAt 73 = .ok (.aload_n 0, 1) := by decide +kernel
theorem dX8_tokenAt_74 : decode cX8_tokenAt 74 = .ok (.getfield 19, 3) := by decide +kernel
theorem dX8_tokenAt_77 : decode cX8_tokenAt 77 = .ok (.baload, 1) := by decide +kernel
theorem dX8_tokenAt_78 : decode cX8_tokenAt 78 = .ok (.invokestatic 94, 3) := by decide +kernel
theorem dX8_tokenAt_81 : decode cX8_tokenAt 81 = .ok (.ifCond .eq 61, 3) := by decide +kernel
theorem dX8_tokenAt_84 : decode cX8_tokenAt 84 = .ok (.aload_n 0, 1) := by decide +kernel
theorem dX8_tokenAt_85 : decode cX8_tokenAt 85 = .ok (.getfield 19, 3) := by decide +kernel
theorem dX8_tokenAt_88 : decode cX8_tokenAt 88 = .ok (.aload_n 0, 1) := by decide +kernel
theorem dX8_tokenAt_89 : decode cX8_tokenAt 89 = .ok (.getfield 15, 3) := by decide +kernel
theorem dX8_tokenAt_92 : decode cX8_tokenAt 92 = .ok (.if_icmp .ge 31, 3) := by decide +kernel
theorem dX8_tokenAt_95 : decode cX8_tokenAt 95 = .ok (.aload_n 0, 1) := by decide +kernel
theorem dX8_tokenAt_96 : decode cX8_tokenAt 96 = .ok (.getfield 9, 3) := by decide +kernel
theorem dX8_tokenAt_99 : decode cX8_tokenAt 99 = .ok (.aload_n 0, 1) := by decide +kernel
theorem dX8_tokenAt_100 : decode cX8_tokenAt 100 = .ok (.getfield 19, 3) := by decide +kernel
theorem dX8_tokenAt_103 : decode cX8_tokenAt 103 = .ok (.baload, 1) := by decide +kernel
theorem dX8_tokenAt_104 : decode cX8_tokenAt 104 = .ok (.invokestatic 94, 3) := by decide +kernel
theorem dX8_tokenAt_107 : decode cX8_tokenAt 107 = .ok (.ifCond .eq 16, 3) := by decide +kernel
theorem dX8_tokenAt_110 : decode cX8_tokenAt 110 = .ok (.aload_n 0, 1) := by decide +kernel
theorem dX8_tokenAt_111 : decode cX8_tokenAt 111 = .ok (.dup, 1) := by decide +kernel
theorem dX8_tokenAt_112 : decode cX8_tokenAt 112 = .ok (.getfield 19, 3) := by decide +kernel
theorem dX8_tokenAt_115 : decode cX8_tokenAt 115 = .ok (.iconst 1, 1) := by decide +kernel
theorem dX8_tokenAt_116 : decode cX8_tokenAt 116 = .ok (.iadd, 1) := by decide +kernel
theorem dX8_tokenAt_117 : decode cX8_tokenAt 117 = .ok (.putfield 19, 3) := by decide +kernel
theorem dX8_tokenAt_120 : decode cX8_tokenAt 120 = .ok (.goto (-36), 3) := by decide +kernel
theorem dX8_tokenAt_123 : decode cX8_tokenAt 123 = .ok (.aload_n 0, 1) := by decide +kernel
theorem dX8_tokenAt_124 : decode cX8_tokenAt 124 = .ok (.getfield 19, 3) := by decide +kernel
theorem dX8_tokenAt_127 : decode cX8_tokenAt 127 = .ok (.aload_n 0, 1) := by decide +kernel
theorem dX8_tokenAt_128 : decode cX8_tokenAt 128 = .ok (.getfield 40, 3) := by decide +kernel
theorem dX8_tokenAt_131 : decode cX8_tokenAt 131 = .ok (.isub, 1) := by decide +kernel
theorem dX8_tokenAt_132 : decode cX8_tokenAt 132 = .ok (.iconst 2, 1) := by decide +kernel
theorem dX8_tokenAt_133 : decode cX8_tokenAt 133 = .ok (.if_icmp .gt 7, 3) := by decide +kernel
theorem dX8_tokenAt_136 : decode cX8_tokenAt 136 = .ok (.iconst 2, 1) := by decide +kernel
theorem dX8_tokenAt_137 : decode cX8_tokenAt 137 = .ok (.goto 4, 3) := by decide +kernel
theorem dX8_tokenAt_140 : decode cX8_tokenAt 140 = .ok (.iconst 4, 1) := by decide +kernel
theorem dX8_tokenAt_141 : decode cX8_tokenAt 141 = .ok (.ireturn, 1) := by decide +kernel
theorem dX8_tokenAt_142 : decode cX8_tokenAt 142 = .ok (.aload_n 0, 1) := by decide +kernel
theorem dX8_tokenAt_143 : decode cX8_tokenAt 143 = .ok (.dup, 1) := by decide +kernel
theorem dX8_tokenAt_144 : decode cX8_tokenAt 144 = .ok (.getfield 19, 3) := by decide +kernel
theorem dX8_tokenAt_147 : decode cX8_tokenAt 147 = .ok (.iconst 1, 1) := by decide +kernel
theorem dX8_tokenAt_148 : decode cX8_tokenAt 148 = .ok (.iadd, 1) := by decide +kernel
theorem dX8_tokenAt_149 : decode cX8_tokenAt 149 = .ok (.putfield 19, 3) := by decide +kernel
theorem dX8_tokenAt_152 : decode cX8_tokenAt 152 = .ok (.aload_n 0, 1) := by decide +kernel
theorem dX8_tokenAt_153 : decode cX8_tokenAt 153 = .ok (.getfield 9, 3) := by decide +kernel
theorem dX8_tokenAt_156 : decode cX8_tokenAt 156 = .ok (.aload_n 0, 1) := by decide +kernel
theorem dX8_tokenAt_157 : decode cX8_tokenAt 157 = .ok (.getfield 40, 3) := by decide +kernel
theorem dX8_tokenAt_160 : decode cX8_tokenAt 160 = .ok (.baload, 1) := by decide +kernel
theorem dX8_tokenAt_161 : decode cX8_tokenAt 161 = .ok (.bipush 59, 2) := by decide +kernel
theorem dX8_tokenAt_163 : decode cX8_tokenAt 163 = .ok (.if_icmp .ne 7, 3) := by decide +kernel
theorem dX8_tokenAt_166 : decode cX8_tokenAt 166 = .ok (.iconst 3, 1) := by decide +kernel
theorem dX8_tokenAt_167 : decode cX8_tokenAt 167 = .ok (.goto 4, 3) := by decide +kernel
theorem dX8_tokenAt_170 : decode cX8_tokenAt 170 = .ok (.iconst 4, 1) := by decide +kernel
theorem dX8_tokenAt_171 : decode cX8_tokenAt 171 = .ok (.ireturn, 1) := by decide +kernel
theorem dX8_isLetter_0 : decode cX8_isLetter 0 = .ok (.iload_n 0, 1) := by decide +kernel
theorem dX8_isLetter_1 : decode cX8_isLetter 1 = .ok (.bipush 97, 2) := by decide +kernel
theorem dX8_isLetter_3 : decode cX8_isLetter 3 = .ok (.if_icmp .lt 13, 3) := by decide +kernel
theorem dX8_isLetter_6 : decode cX8_isLetter 6 = .ok (.iload_n 0, 1) := by decide +kernel
theorem dX8_isLetter_7 : decode cX8_isLetter 7 = .ok (.bipush 122, 2) := by decide +kernel
theorem dX8_isLetter_9 : decode cX8_isLetter 9 = .ok (.if_icmp .gt 7, 3) := by decide +kernel
theorem dX8_isLetter_12 : decode cX8_isLetter 12 = .ok (.iconst 1, 1) := by decide +kernel
theorem dX8_isLetter_13 : decode cX8_isLetter 13 = .ok (.goto 4, 3) := by decide +kernel
theorem dX8_isLetter_16 : decode cX8_isLetter 16 = .ok (.iconst 0, 1) := by decide +kernel
theorem dX8_isLetter_17 : decode cX8_isLetter 17 = .ok (.ireturn, 1) := by decide +kernel
theorem dX8_isFigure_0 : decode cX8_isFigure 0 = .ok (.iload_n 0, 1) := by decide +kernel
theorem dX8_isFigure_1 : decode cX8_isFigure 1 = .ok (.bipush 48, 2) := by decide +kernel
theorem dX8_isFigure_3 : decode cX8_isFigure 3 = .ok (.if_icmp .lt 13, 3) := by decide +kernel
theorem dX8_isFigure_6 : decode cX8_isFigure 6 = .ok (.iload_n 0, 1) := by decide +kernel
theorem dX8_isFigure_7 : decode cX8_isFigure 7 = .ok (.bipush 57, 2) := by decide +kernel
theorem dX8_isFigure_9 : decode cX8_isFigure 9 = .ok (.if_icmp .gt 7, 3) := by decide +kernel
theorem dX8_isFigure_12 : decode cX8_isFigure 12 = .ok (.iconst 1, 1) := by decide +kernel
theorem dX8_isFigure_13 : decode cX8_isFigure 13 = .ok (.goto 4, 3) := by decide +kernel
theorem dX8_isFigure_16 : decode cX8_isFigure 16 = .ok (.iconst 0, 1) := by decide +kernel
theorem dX8_isFigure_17 : decode cX8_isFigure 17 = .ok (.ireturn, 1) := by decide +kernel
theorem dX9_init_0 : decode cX9_init 0 = .ok (.aload_n 0, 1) := by decide +kernel
theorem dX9_init_1 : decode cX9_init 1 = .ok (.invokespecial 3, 3) := by decide +kernel
theorem dX9_init_4 : decode cX9_init 4 = .ok (.bipush 6, 2) := by decide +kernel
theorem dX9_init_6 : decode cX9_init 6 = .ok (.anewarray 9, 3) := by decide +kernel
theorem dX9_init_9 : decode cX9_init 9 = .ok (.dup, 1) := by decide +kernel
theorem dX9_init_10 : decode cX9_init 10 = .ok (.iconst 0, 1) := by decide +kernel
theorem dX9_init_11 : decode cX9_init 11 = .ok (.new 9, 3) := by decide +kernel
theorem dX9_init_14 : decode cX9_init 14 = .ok (.dup, 1) := by decide +kernel
theorem dX9_init_15 : decode cX9_init 15 = .ok (.invokespecial 11, 3) := by decide +kernel
theorem dX9_init_18 : decode cX9_init 18 = .ok (.aastore, 1) := by decide +kernel
theorem dX9_init_19 : decode cX9_init 19 = .ok (.dup, 1) := by decide +kernel
theorem dX9_init_20 : decode cX9_init 20 = .ok (.iconst 1, 1) := by decide +kernel
theorem dX9_init_21 : decode cX9_init 21 = .ok (.new 12, 3) := by decide +kernel
theorem dX9_init_24 : decode cX9_init 24 = .ok (.dup, 1) := by decide +kernel
theorem dX9_init_25 : decode cX9_init 25 = .ok (.invokespecial 14, 3) := by decide +kernel
theorem dX9_init_28 : decode cX9_init 28 = .ok (.aastore, 1) := by decide +kernel
theorem dX9_init_29 : decode cX9_init 29 = .ok (.dup, 1) := by decide +kernel
theorem dX9_init_30 : decode cX9_init 30 = .ok (.iconst 2, 1) := by decide +kernel
theorem dX9_init_31 : decode cX9_init 31 = .ok (.new 15, 3) := by decide +kernel
theorem dX9_init_34 : decode cX9_init 34 = .ok (.dup, 1) := by decide +kernel
theorem dX9_init_35 : decode cX9_init 35 = .ok (.invokespecial 17, 3) := by decide +kernel
theorem dX9_init_38 : decode cX9_init 38 = .ok (.aastore, 1) := by decide +kernel
theorem dX9_init_39 : decode cX9_init 39 = .ok (.dup, 1) := by decide +kernel
theorem dX9_init_40 : decode cX9_init 40 = .ok (.iconst 3, 1) := by decide +kernel
theorem dX9_init_41 : decode cX9_init 41 = .ok (.new 18, 3) := by decide +kernel
theorem dX9_init_44 : decode cX9_init 44 = .ok (.dup, 1) := by decide +kernel
theorem dX9_init_45 : decode cX9_init 45 = .ok (.invokespecial 20, 3) := by decide +kernel
theorem dX9_init_48 : decode cX9_init 48 = .ok (.aastore, 1) := by decide +kernel
theorem dX9_init_49 : decode cX9_init 49 = .ok (.dup, 1) := by decide +kernel
theorem dX9_init_50 : decode cX9_init 50 = .ok (.iconst 4, 1) := by decide +kernel
theorem dX9_init_51 : decode cX9_init 51 = .ok (.new 21, 3) := by decide +kernel
theorem dX9_init_54 : decode cX9_init 54 = .ok (.dup, 1) := by decide +kernel
theorem dX9_init_55 : decode cX9_init 55 = .ok (.invokespecial 23, 3) := by decide +kernel
theorem dX9_init_58 : decode cX9_init 58 = .ok (.aastore, 1) := by decide +kernel
theorem dX9_init_59 : decode cX9_init 59 = .ok (.dup, 1) := by decide +kernel
theorem dX9_init_60 : decode cX9_init 60 = .ok (.iconst 5, 1) := by decide +kernel
theorem dX9_init_61 : decode cX9_init 61 = .ok (.new 24, 3) := by decide +kernel
theorem dX9_init_64 : decode cX9_init 64 = .ok (.dup, 1) := by decide +kernel
theorem dX9_init_65 : decode cX9_init 65 = .ok (.invokespecial 26, 3) := by decide +kernel
theorem dX9_init_68 : decode cX9_init 68 = .ok (.aastore, 1) := by decide +kernel
theorem dX9_init_69 : decode cX9_init 69 = .ok (.astore_n 1, 1) := by decide +kernel
theorem dX9_init_70 : decode cX9_init 70 = .ok (.aload_n 0, 1) := by decide +kernel
theorem dX9_init_71 : decode cX9_init 71 = .ok (.new 27, 3) := by decide +kernel
theorem dX9_init_74 : decode cX9_init 74 = .ok (.dup, 1) := by decide +kernel
theorem dX9_init_75 : decode cX9_init 75 = .ok (.aload_n 1, 1) := by decide +kernel
theorem dX9_init_76 : decode cX9_init 76 = .ok (.invokespecial 29, 3) := by decide +kernel
theorem dX9_init_79 : decode cX9_init 79 = .ok (.putfield 32, 3) := by decide +kernel
theorem dX9_init_82 : decode cX9_init 82 = .ok (.aload_n 0, 1) := by decide +kernel
theorem dX9_init_83 : decode cX9_init 83 = .ok (.new 27, 3) := by decide +kernel
theorem dX9_init_86 : decode cX9_init 86 = .ok (.dup, 1) := by decide +kernel
theorem dX9_init_87 : decode cX9_init 87 = .ok (.aload_n 1, 1) := by decide +kernel
theorem dX9_init_88 : decode cX9_init 88 = .ok (.invokespecial 29, 3) := by decide +kernel
theorem dX9_init_91 : decode cX9_init 91 = .ok (.putfield 36, 3) := by decide +kernel
theorem dX9_init_94 : decode cX9_init 94 = .ok (.aload_n 0, 1) := by decide +kernel
theorem dX9_init_95 : decode cX9_init 95 = .ok (.iconst 2, 1) := by decide +kernel
theorem dX9_init_96 : decode cX9_init 96 = .ok (.anewarray 27, 3) := by decide +kernel
theorem dX9_init_99 : decode cX9_init 99 = .ok (.dup, 1) := by decide +kernel
theorem dX9_init_100 : decode cX9_init 100 = .ok (.iconst 0, 1) := by decide +kernel
theorem dX9_init_101 : decode cX9_init 101 = .ok (.new 27, 3) := by decide +kernel
theorem dX9_init_104 : decode cX9_init 104 = .ok (.dup, 1) := by decide +kernel
theorem dX9_init_105 : decode cX9_init 105 = .ok (.aload_n 1, 1) := by decide +kernel
theorem dX9_init_106 : decode cX9_init 106 = .ok (.invokespecial 29, 3) := by decide +kernel
theorem dX9_init_109 : decode cX9_init 109 = .ok (.aastore, 1) := by decide +kernel
theorem dX9_init_110 : decode cX9_init 110 = .ok (.dup, 1) := by decide +kernel
theorem dX9_init_111 : decode cX9_init 111 = .ok (.iconst 1, 1) := by decide +kernel
theorem dX9_init_112 : decode cX9_init 112 = .ok (.new 27, 3) := by decide +kernel
theorem dX9_init_115 : decode cX9_init 115 = .ok (.dup, 1) := by decide +kernel
theorem dX9_init_116 : decode cX9_init 116 = .ok (.aload_n 1, 1) := by decide +kernel
theorem dX9_init_117 : decode cX9_init 117 = .ok (.invokespecial 29, 3) := by decide +kernel
theorem dX9_init_120 : decode cX9_init 120 = .ok (.aastore, 1) := by decide +kernel
theorem dX9_init_121 : decode cX9_init 121 = .ok (.putfield 39, 3) := by decide +kernel
theorem dX9_init_124 : decode cX9_init 124 = .ok (.aload_n 0, 1) := by decide +kernel
theorem dX9_init_125 : decode cX9_init 125 = .ok (.iconst 2, 1) := by decide +kernel
theorem dX9_init_126 : decode cX9_init 126 = .ok (.newarray .boolean, 2) := by decide +kernel
theorem dX9_init_128 : decode cX9_init 128 = .ok (.putfield 43, 3) := by decide +kernel
theorem dX9_init_131 : decode cX9_init 131 = .ok (.aload_n 0, 1) := by decide +kernel
theorem dX9_init_132 : decode cX9_init 132 = .ok (.new 47, 3) := by decide +kernel
theorem dX9_init_135 : decode cX9_init 135 = .ok (.dup, 1) := by decide +kernel
theorem dX9_init_136 : decode cX9_init 136 = .ok (.invokespecial 49, 3) := by decide +kernel
theorem dX9_init_139 : decode cX9_init 139 = .ok (.putfield 50, 3) := by decide +kernel
theorem dX9_init_142 : decode cX9_init 142 = .ok (.aload_n 0, 1) := by decide +kernel
theorem dX9_init_143 : decode cX9_init 143 = .ok (.new 54, 3) := by decide +kernel
theorem dX9_init_146 : decode cX9_init 146 = .ok (.dup, 1) := by decide +kernel
theorem dX9_init_147 : decode cX9_init 147 = .ok (.invokespecial 56, 3) := by decide +kernel
theorem dX9_init_150 : decode cX9_init 150 = .ok (.putfield 57, 3) := by decide +kernel
theorem dX9_init_153 : decode cX9_init 153 = .ok (.aload_n 0, 1) := by decide +kernel
theorem dX9_init_154 : decode cX9_init 154 = .ok (.lconst 1, 1) := by decide +kernel
theorem dX9_init_155 : decode cX9_init 155 = .ok (.putfield 61, 3) := by decide +kernel
theorem dX9_init_158 : decode cX9_init 158 = .ok (.return_, 1) := by decide +kernel
theorem dX9_night_0 : decode cX9_night 0 = .ok (.aload_n 0, 1) := by decide +kernel
theorem dX9_night_1 : decode cX9_night 1 = .ok (.getfield 32, 3) := by decide +kernel
theorem dX9_night_4 : decode cX9_night 4 = .ok (.getfield 65, 3) := by decide +kernel
theorem dX9_night_7 : decode cX9_night 7 = .ok (.istore_n 1, 1) := by decide +kernel
theorem dX9_night_8 : decode cX9_night 8 = .ok (.aload_n 0, 1) := by decide +kernel
theorem dX9_night_9 : decode cX9_night 9 = .ok (.getfield 32, 3) := by decide +kernel
theorem dX9_night_12 : decode cX9_night 12 = .ok (.invokevirtual 69, 3) := by decide +kernel
theorem dX9_night_15 : decode cX9_night 15 = .ok (.iload_n 1, 1) := by decide +kernel
theorem dX9_night_16 : decode cX9_night 16 = .ok (.ireturn, 1) := by decide +kernel
theorem dX9_boy_0 : decode cX9_boy 0 = .ok (.iload_n 1, 1) := by decide +kernel
theorem dX9_boy_1 : decode cX9_boy 1 = .ok (.iconst 5, 1) := by decide +kernel
theorem dX9_boy_2 : decode cX9_boy 2 = .ok (.invokestatic 72, 3) := by decide +kernel
theorem dX9_boy_5 : decode cX9_boy 5 = .ok (.ifCond .eq 21, 3) := by decide +kernel
theorem dX9_boy_8 : decode cX9_boy 8 = .ok (.iload_n 2, 1) := by decide +kernel
theorem dX9_boy_9 : decode cX9_boy 9 = .ok (.bipush 12, 2) := by decide +kernel
theorem dX9_boy_11 : decode cX9_boy 11 = .ok (.invokestatic 72, 3) := by decide +kernel
theorem dX9_boy_14 : decode cX9_boy 14 = .ok (.ifCond .eq 12, 3) := by decide +kernel
theorem dX9_boy_17 : decode cX9_boy 17 = .ok (.iload_n 3, 1) := by decide +kernel
theorem dX9_boy_18 : decode cX9_boy 18 = .ok (.bipush 40, 2) := by decide +kernel
theorem dX9_boy_20 : decode cX9_boy 20 = .ok (.invokestatic 72, 3) := by decide +kernel
theorem dX9_boy_23 : decode cX9_boy 23 = .ok (.ifCond .ne 8, 3) := by decide +kernel
theorem dX9_boy_26 : decode cX9_boy 26 = .ok (.aload_n 0, 1) := by decide +kernel
theorem dX9_boy_27 : decode cX9_boy 27 = .ok (.invokevirtual 76, 3) := by decide +kernel
theorem dX9_boy_30 : decode cX9_boy 30 = .ok (.ireturn, 1) := by decide +kernel
theorem dX9_boy_31 : decode cX9_boy 31 = .ok (.aload_n 0, 1) := by decide +kernel
theorem dX9_boy_32 : decode cX9_boy 32 = .ok (.getfield 32, 3) := by decide +kernel
theorem dX9_boy_35 : decode cX9_boy 35 = .ok (.getfield 65, 3) := by decide +kernel
theorem dX9_boy_38 : decode cX9_boy 38 = .ok (.iconst 5, 1) := by decide +kernel
theorem dX9_boy_39 : decode cX9_boy 39 = .ok (.if_icmp .lt 8, 3) := by decide +kernel
theorem dX9_boy_42 : decode cX9_boy 42 = .ok (.aload_n 0, 1) := by decide +kernel
theorem dX9_boy_43 : decode cX9_boy 43 = .ok (.invokevirtual 80, 3) := by decide +kernel
theorem dX9_boy_46 : decode cX9_boy 46 = .ok (.ireturn, 1) := by decide +kernel
theorem dX9_boy_47 : decode cX9_boy 47 = .ok (.aload_n 0, 1) := by decide +kernel
theorem dX9_boy_48 : decode cX9_boy 48 = .ok (.getfield 32, 3) := by decide +kernel
theorem dX9_boy_51 : decode cX9_boy 51 = .ok (.iload_n 1, 1) := by decide +kernel
theorem dX9_boy_52 : decode cX9_boy 52 = .ok (.iload_n 2, 1) := by decide +kernel
theorem dX9_boy_53 : decode cX9_boy 53 = .ok (.iload_n 3, 1) := by decide +kernel
theorem dX9_boy_54 : decode cX9_boy 54 = .ok (.invokevirtual 83, 3) := by decide +kernel
theorem dX9_boy_57 : decode cX9_boy 57 = .ok (.ireturn, 1) := by decide +kernel
theorem dX9_give_0 : decode cX9_give 0 = .ok (.iload_n 1, 1) := by decide +kernel
theorem dX9_give_1 : decode cX9_give 1 = .ok (.invokestatic 87, 3) := by decide +kernel
theorem dX9_give_4 : decode cX9_give 4 = .ok (.ifCond .eq 16, 3) := by decide +kernel
theorem dX9_give_7 : decode cX9_give 7 = .ok (.iload_n 2, 1) := by decide +kernel
theorem dX9_give_8 : decode cX9_give 8 = .ok (.iconst (-1), 1) := by decide +kernel
theorem dX9_give_9 : decode cX9_give 9 = .ok (.if_icmp .eq 16, 3) := by decide +kernel
theorem dX9_give_12 : decode cX9_give 12 = .ok (.aload_n 0, 1) := by decide +kernel
theorem dX9_give_13 : decode cX9_give 13 = .ok (.iload_n 2, 1) := by decide +kernel
theorem dX9_give_14 : decode cX9_give 14 = .ok (.invokevirtual 91, 3) := by decide +kernel
theorem dX9_give_17 : decode cX9_give 17 = .ok (.ifCond .ne 8, 3) := by decide +kernel
theorem dX9_give_20 : decode cX9_give 20 = .ok (.aload_n 0, 1) := by decide +kernel
theorem dX9_give_21 : decode cX9_give 21 = .ok (.invokevirtual 94, 3) := by decide +kernel
theorem dX9_give_24 : decode cX9_give 24 = .ok (.ireturn, 1) := by decide +kernel
theorem dX9_give_25 : decode cX9_give 25 = .ok (.aload_n 0, 1) := by decide +kernel
theorem dX9_give_26 : decode cX9_give 26 = .ok (.getfield 32, 3) := by decide +kernel
theorem dX9_give_29 : decode cX9_give 29 = .ok (.getfield 97, 3) := by decide +kernel
theorem dX9_give_32 : decode cX9_give 32 = .ok (.iload_n 1, 1) := by decide +kernel
theorem dX9_give_33 : decode cX9_give 33 = .ok (.iaload, 1) := by decide +kernel
theorem dX9_give_34 : decode cX9_give 34 = .ok (.istore_n 3, 1) := by decide +kernel
theorem dX9_give_35 : decode cX9_give 35 = .ok (.aload_n 0, 1) := by decide +kernel
theorem dX9_give_36 : decode cX9_give 36 = .ok (.getfield 32, 3) := by decide +kernel
theorem dX9_give_39 : decode cX9_give 39 = .ok (.invokevirtual 101, 3) := by decide +kernel
theorem dX9_give_42 : decode cX9_give 42 = .ok (.aload_n 0, 1) := by decide +kernel
theorem dX9_give_43 : decode cX9_give 43 = .ok (.getfield 32, 3) := by decide +kernel
theorem dX9_give_46 : decode cX9_give 46 = .ok (.getfield 97, 3) := by decide +kernel
theorem dX9_give_49 : decode cX9_give 49 = .ok (.iload_n 1, 1) := by decide +kernel
theorem dX9_give_50 : decode cX9_give 50 = .ok (.iload_n 2, 1) := by decide +kernel
theorem dX9_give_51 : decode cX9_give 51 = .ok (.iastore, 1) := by decide +kernel
theorem dX9_give_52 : decode cX9_give 52 = .ok (.iload_n 3, 1) := by decide +kernel
theorem dX9_give_53 : decode cX9_give 53 = .ok (.ireturn, 1) := by decide +kernel
theorem dX9_type_0 : decode cX9_type 0 = .ok (.iload_n 1, 1) := by decide +kernel
theorem dX9_type_1 : decode cX9_type 1 = .ok (.bipush 127, 2) := by decide +kernel
theorem dX9_type_3 : decode cX9_type 3 = .ok (.invokestatic 72, 3) := by decide +kernel
theorem dX9_type_6 : decode cX9_type 6 = .ok (.ifCond .ne 8, 3) := by decide +kernel
theorem dX9_type_9 : decode cX9_type 9 = .ok (.aload_n 0, 1) := by decide +kernel
theorem dX9_type_10 : decode cX9_type 10 = .ok (.invokevirtual 76, 3) := by decide +kernel
theorem dX9_type_13 : decode cX9_type 13 = .ok (.ireturn, 1) := by decide +kernel
theorem dX9_type_14 : decode cX9_type 14 = .ok (.aload_n 0, 1) := by decide +kernel
theorem dX9_type_15 : decode cX9_type 15 = .ok (.getfield 57, 3) := by decide +kernel
theorem dX9_type_18 : decode cX9_type 18 = .ok (.getfield 104, 3) := by decide +kernel
theorem dX9_type_21 : decode cX9_type 21 = .ok (.sipush 150, 3) := by decide +kernel
theorem dX9_type_24 : decode cX9_type 24 = .ok (.if_icmp .lt 8, 3) := by decide +kernel
theorem dX9_type_27 : decode cX9_type 27 = .ok (.aload_n 0, 1) := by decide +kernel
theorem dX9_type_28 : decode cX9_type 28 = .ok (.invokevirtual 80, 3) := by decide +kernel
theorem dX9_type_31 : decode cX9_type 31 = .ok (.ireturn, 1) := by decide +kernel
theorem dX9_type_32 : decode cX9_type 32 = .ok (.aload_n 0, 1) := by decide +kernel
theorem dX9_type_33 : decode cX9_type 33 = .ok (.getfield 57, 3) := by decide +kernel
theorem dX9_type_36 : decode cX9_type 36 = .ok (.iload_n 1, 1) := by decide +kernel
theorem dX9_type_37 : decode cX9_type 37 = .ok (.i2b, 1) := by decide +kernel
theorem dX9_type_38 : decode cX9_type 38 = .ok (.invokevirtual 107, 3) := by decide +kernel
theorem dX9_type_41 : decode cX9_type 41 = .ok (.ireturn, 1) := by decide +kernel
theorem dX9_clear_0 : decode cX9_clear 0 = .ok (.aload_n 0, 1) := by decide +kernel
theorem dX9_clear_1 : decode cX9_clear 1 = .ok (.getfield 57, 3) := by decide +kernel
theorem dX9_clear_4 : decode cX9_clear 4 = .ok (.getfield 104, 3) := by decide +kernel
theorem dX9_clear_7 : decode cX9_clear 7 = .ok (.istore_n 1, 1) := by decide +kernel
theorem dX9_clear_8 : decode cX9_clear 8 = .ok (.aload_n 0, 1) := by decide +kernel
theorem dX9_clear_9 : decode cX9_clear 9 = .ok (.getfield 57, 3) := by decide +kernel
theorem dX9_clear_12 : decode cX9_clear 12 = .ok (.iconst 0, 1) := by decide +kernel
theorem dX9_clear_13 : decode cX9_clear 13 = .ok (.putfield 104, 3) := by decide +kernel
theorem dX9_clear_16 : decode cX9_clear 16 = .ok (.iload_n 1, 1) := by decide +kernel
theorem dX9_clear_17 : decode cX9_clear 17 = .ok (.ireturn, 1) := by decide +kernel
theorem dX9_read_0 : decode cX9_read 0 = .ok (.aload_n 0, 1) := by decide +kernel
theorem dX9_read_1 : decode cX9_read 1 = .ok (.getfield 57, 3) := by decide +kernel
theorem dX9_read_4 : decode cX9_read 4 = .ok (.aload_n 0, 1) := by decide +kernel
theorem dX9_read_5 : decode cX9_read 5 = .ok (.getfield 36, 3) := by decide +kernel
theorem dX9_read_8 : decode cX9_read 8 = .ok (.invokevirtual 111, 3) := by decide +kernel
theorem dX9_read_11 : decode cX9_read 11 = .ok (.istore_n 1, 1) := by decide +kernel
theorem dX9_read_12 : decode cX9_read 12 = .ok (.iload_n 1, 1) := by decide +kernel
theorem dX9_read_13 : decode cX9_read 13 = .ok (.ifCond .le 14, 3) := by decide +kernel
theorem dX9_read_16 : decode cX9_read 16 = .ok (.aload_n 0, 1) := by decide +kernel
theorem dX9_read_17 : decode cX9_read 17 = .ok (.getfield 32, 3) := by decide +kernel
theorem dX9_read_20 : decode cX9_read 20 = .ok (.aload_n 0, 1) := by decide +kernel
theorem dX9_read_21 : decode cX9_read 21 = .ok (.getfield 36, 3) := by decide +kernel
theorem dX9_read_24 : decode cX9_read 24 = .ok (.invokevirtual 115, 3) := by decide +kernel
theorem dX9_read_27 : decode cX9_read 27 = .ok (.iload_n 1, 1) := by decide +kernel
theorem dX9_read_28 : decode cX9_read 28 = .ok (.ireturn, 1) := by decide +kernel
theorem dX9_swap_0 : decode cX9_swap 0 = .ok (.iload_n 1, 1) := by decide +kernel
theorem dX9_swap_1 : decode cX9_swap 1 = .ok (.invokestatic 87, 3) := by decide +kernel
theorem dX9_swap_4 : decode cX9_swap 4 = .ok (.ifCond .eq 15, 3) := by decide +kernel
theorem dX9_swap_7 : decode cX9_swap 7 = .ok (.iload_n 2, 1) := by decide +kernel
theorem dX9_swap_8 : decode cX9_swap 8 = .ok (.invokestatic 87, 3) := by decide +kernel
theorem dX9_swap_11 : decode cX9_swap 11 = .ok (.ifCond .eq 8, 3) := by decide +kernel
theorem dX9_swap_14 : decode cX9_swap 14 = .ok (.iload_n 1, 1) := by decide +kernel
theorem dX9_swap_15 : decode cX9_swap 15 = .ok (.iload_n 2, 1) := by decide +kernel
theorem dX9_swap_16 : decode cX9_swap 16 = .ok (.if_icmp .ne 8, 3) := by decide +kernel
theorem dX9_swap_19 : decode cX9_swap 19 = .ok (.aload_n 0, 1) := by decide +kernel
theorem dX9_swap_20 : decode cX9_swap 20 = .ok (.invokevirtual 76, 3) := by decide +kernel
theorem dX9_swap_23 : decode cX9_swap 23 = .ok (.ireturn, 1) := by decide +kernel
theorem dX9_swap_24 : decode cX9_swap 24 = .ok (.aload_n 0, 1) := by decide +kernel
theorem dX9_swap_25 : decode cX9_swap 25 = .ok (.getfield 32, 3) := by decide +kernel
theorem dX9_swap_28 : decode cX9_swap 28 = .ok (.iload_n 1, 1) := by decide +kernel
theorem dX9_swap_29 : decode cX9_swap 29 = .ok (.iload_n 2, 1) := by decide +kernel
theorem dX9_swap_30 : decode cX9_swap 30 = .ok (.invokevirtual 119, 3) := by decide +kernel
theorem dX9_swap_33 : decode cX9_swap 33 = .ok (.ifCond .ne 8, 3) := by decide +kernel
theorem dX9_swap_36 : decode cX9_swap 36 = .ok (.aload_n 0, 1) := by decide +kernel
theorem dX9_swap_37 : decode cX9_swap 37 = .ok (.invokevirtual 122, 3) := by decide +kernel
theorem dX9_swap_40 : decode cX9_swap 40 = .ok (.ireturn, 1) := by decide +kernel
theorem dX9_swap_41 : decode cX9_swap 41 = .ok (.aload_n 0, 1) := by decide +kernel
theorem dX9_swap_42 : decode cX9_swap 42 = .ok (.getfield 32, 3) := by decide +kernel
theorem dX9_swap_45 : decode cX9_swap 45 = .ok (.invokevirtual 101, 3) := by decide +kernel
theorem dX9_swap_48 : decode cX9_swap 48 = .ok (.aload_n 0, 1) := by decide +kernel
theorem dX9_swap_49 : decode cX9_swap 49 = .ok (.getfield 32, 3) := by decide +kernel
theorem dX9_swap_52 : decode cX9_swap 52 = .ok (.iload_n 1, 1) := by decide +kernel
theorem dX9_swap_53 : decode cX9_swap 53 = .ok (.iload_n 2, 1) := by decide +kernel
theorem dX9_swap_54 : decode cX9_swap 54 = .ok (.invokevirtual 125, 3) := by decide +kernel
theorem dX9_swap_57 : decode cX9_swap 57 = .ok (.iconst 1, 1) := by decide +kernel
theorem dX9_swap_58 : decode cX9_swap 58 = .ok (.ireturn, 1) := by decide +kernel
theorem dX9_sell_0 : decode cX9_sell 0 = .ok (.iload_n 1, 1) := by decide +kernel
theorem dX9_sell_1 : decode cX9_sell 1 = .ok (.invokestatic 87, 3) := by decide +kernel
theorem dX9_sell_4 : decode cX9_sell 4 = .ok (.ifCond .eq 20, 3) := by decide +kernel
theorem dX9_sell_7 : decode cX9_sell 7 = .ok (.aload_n 0, 1) := by decide +kernel
theorem dX9_sell_8 : decode cX9_sell 8 = .ok (.iload_n 2, 1) := by decide +kernel
theorem dX9_sell_9 : decode cX9_sell 9 = .ok (.invokevirtual 91, 3) := by decide +kernel
theorem dX9_sell_12 : decode cX9_sell 12 = .ok (.ifCond .eq 12, 3) := by decide +kernel
theorem dX9_sell_15 : decode cX9_sell 15 = .ok (.iload_n 3, 1) := by decide +kernel
theorem dX9_sell_16 : decode cX9_sell 16 = .ok (.bipush 40, 2) := by decide +kernel
theorem dX9_sell_18 : decode cX9_sell 18 = .ok (.invokestatic 72, 3) := by decide +kernel
theorem dX9_sell_21 : decode cX9_sell 21 = .ok (.ifCond .ne 8, 3) := by decide +kernel
theorem dX9_sell_24 : decode cX9_sell 24 = .ok (.aload_n 0, 1) := by decide +kernel
theorem dX9_sell_25 : decode cX9_sell 25 = .ok (.invokevirtual 76, 3) := by decide +kernel
theorem dX9_sell_28 : decode cX9_sell 28 = .ok (.ireturn, 1) := by decide +kernel
theorem dX9_sell_29 : decode cX9_sell 29 = .ok (.aload_n 0, 1) := by decide +kernel
theorem dX9_sell_30 : decode cX9_sell 30 = .ok (.getfield 32, 3) := by decide +kernel
theorem dX9_sell_33 : decode cX9_sell 33 = .ok (.getfield 97, 3) := by decide +kernel
theorem dX9_sell_36 : decode cX9_sell 36 = .ok (.iload_n 1, 1) := by decide +kernel
theorem dX9_sell_37 : decode cX9_sell 37 = .ok (.iaload, 1) := by decide +kernel
theorem dX9_sell_38 : decode cX9_sell 38 = .ok (.istore 4, 2) := by decide +kernel
theorem dX9_sell_40 : decode cX9_sell 40 = .ok (.iload 4, 2) := by decide +kernel
theorem dX9_sell_42 : decode cX9_sell 42 = .ok (.iload_n 2, 1) := by decide +kernel
theorem dX9_sell_43 : decode cX9_sell 43 = .ok (.if_icmp .eq 16, 3) := by decide +kernel
theorem dX9_sell_46 : decode cX9_sell 46 = .ok (.aload_n 0, 1) := by decide +kernel
theorem dX9_sell_47 : decode cX9_sell 47 = .ok (.getfield 32, 3) := by decide +kernel
theorem dX9_sell_50 : decode cX9_sell 50 = .ok (.getfield 129, 3) := by decide +kernel
theorem dX9_sell_53 : decode cX9_sell 53 = .ok (.iload_n 2, 1) := by decide +kernel
theorem dX9_sell_54 : decode cX9_sell 54 = .ok (.iaload, 1) := by decide +kernel
theorem dX9_sell_55 : decode cX9_sell 55 = .ok (.iload_n 3, 1) := by decide +kernel
theorem dX9_sell_56 : decode cX9_sell 56 = .ok (.if_icmp .ge 8, 3) := by decide +kernel
theorem dX9_sell_59 : decode cX9_sell 59 = .ok (.aload_n 0, 1) := by decide +kernel
theorem dX9_sell_60 : decode cX9_sell 60 = .ok (.invokevirtual 122, 3) := by decide +kernel
theorem dX9_sell_63 : decode cX9_sell 63 = .ok (.ireturn, 1) := by decide +kernel
theorem dX9_sell_64 : decode cX9_sell 64 = .ok (.aload_n 0, 1) := by decide +kernel
theorem dX9_sell_65 : decode cX9_sell 65 = .ok (.getfield 32, 3) := by decide +kernel
theorem dX9_sell_68 : decode cX9_sell 68 = .ok (.invokevirtual 101, 3) := by decide +kernel
theorem dX9_sell_71 : decode cX9_sell 71 = .ok (.aload_n 0, 1) := by decide +kernel
theorem dX9_sell_72 : decode cX9_sell 72 = .ok (.getfield 32, 3) := by decide +kernel
theorem dX9_sell_75 : decode cX9_sell 75 = .ok (.getfield 97, 3) := by decide +kernel
theorem dX9_sell_78 : decode cX9_sell 78 = .ok (.iload_n 1, 1) := by decide +kernel
theorem dX9_sell_79 : decode cX9_sell 79 = .ok (.iload_n 2, 1) := by decide +kernel
theorem dX9_sell_80 : decode cX9_sell 80 = .ok (.iastore, 1) := by decide +kernel
theorem dX9_sell_81 : decode cX9_sell 81 = .ok (.aload_n 0, 1) := by decide +kernel
theorem dX9_sell_82 : decode cX9_sell 82 = .ok (.getfield 32, 3) := by decide +kernel
theorem dX9_sell_85 : decode cX9_sell 85 = .ok (.getfield 129, 3) := by decide +kernel
theorem dX9_sell_88 : decode cX9_sell 88 = .ok (.iload_n 2, 1) := by decide +kernel
theorem dX9_sell_89 : decode cX9_sell 89 = .ok (.dup2, 1) := by decide +kernel
theorem dX9_sell_90 : decode cX9_sell 90 = .ok (.iaload, 1) := by decide +kernel
theorem dX9_sell_91 : decode cX9_sell 91 = .ok (.iload_n 3, 1) := by decide +kernel
theorem dX9_sell_92 : decode cX9_sell 92 = .ok (.isub, 1) := by decide +kernel
theorem dX9_sell_93 : decode cX9_sell 93 = .ok (.iastore, 1) := by decide +kernel
theorem dX9_sell_94 : decode cX9_sell 94 = .ok (.aload_n 0, 1) := by decide +kernel
theorem dX9_sell_95 : decode cX9_sell 95 = .ok (.iload 4, 2) := by decide +kernel
theorem dX9_sell_97 : decode cX9_sell 97 = .ok (.invokevirtual 91, 3) := by decide +kernel
theorem dX9_sell_100 : decode cX9_sell 100 = .ok (.ifCond .eq 17, 3) := by decide +kernel
theorem dX9_sell_103 : decode cX9_sell 103 = .ok (.aload_n 0, 1) := by decide +kernel
theorem dX9_sell_104 : decode cX9_sell 104 = .ok (.getfield 32, 3) := by decide +kernel
theorem dX9_sell_107 : decode cX9_sell 107 = .ok (.getfield 129, 3) := by decide +kernel
theorem dX9_sell_110 : decode cX9_sell 110 = .ok (.iload 4, 2) := by decide +kernel
theorem dX9_sell_112 : decode cX9_sell 112 = .ok (.dup2, 1) := by decide +kernel
theorem dX9_sell_113 : decode cX9_sell 113 = .ok (.iaload, 1) := by decide +kernel
theorem dX9_sell_114 : decode cX9_sell 114 = .ok (.iload_n 3, 1) := by decide +kernel
theorem dX9_sell_115 : decode cX9_sell 115 = .ok (.iadd, 1) := by decide +kernel
theorem dX9_sell_116 : decode cX9_sell 116 = .ok (.iastore, 1) := by decide +kernel
theorem dX9_sell_117 : decode cX9_sell 117 = .ok (.aload_n 0, 1) := by decide +kernel
theorem dX9_sell_118 : decode cX9_sell 118 = .ok (.getfield 32, 3) := by decide +kernel
theorem dX9_sell_121 : decode cX9_sell 121 = .ok (.getfield 129, 3) := by decide +kernel
theorem dX9_sell_124 : decode cX9_sell 124 = .ok (.iload_n 2, 1) := by decide +kernel
theorem dX9_sell_125 : decode cX9_sell 125 = .ok (.iaload, 1) := by decide +kernel
theorem dX9_sell_126 : decode cX9_sell 126 = .ok (.ireturn, 1) := by decide +kernel
theorem dX9_undo_0 : decode cX9_undo 0 = .ok (.aload_n 0, 1) := by decide +kernel
theorem dX9_undo_1 : decode cX9_undo 1 = .ok (.getfield 32, 3) := by decide +kernel
theorem dX9_undo_4 : decode cX9_undo 4 = .ok (.getfield 132, 3) := by decide +kernel
theorem dX9_undo_7 : decode cX9_undo 7 = .ok (.ifCond .gt 8, 3) := by decide +kernel
theorem dX9_undo_10 : decode cX9_undo 10 = .ok (.aload_n 0, 1) := by decide +kernel
theorem dX9_undo_11 : decode cX9_undo 11 = .ok (.invokevirtual 122, 3) := by decide +kernel
theorem dX9_undo_14 : decode cX9_undo 14 = .ok (.ireturn, 1) := by decide +kernel
theorem dX9_undo_15 : decode cX9_undo 15 = .ok (.aload_n 0, 1) := by decide +kernel
theorem dX9_undo_16 : decode cX9_undo 16 = .ok (.getfield 32, 3) := by decide +kernel
theorem dX9_undo_19 : decode cX9_undo 19 = .ok (.invokevirtual 135, 3) := by decide +kernel
theorem dX9_undo_22 : decode cX9_undo 22 = .ok (.aload_n 0, 1) := by decide +kernel
theorem dX9_undo_23 : decode cX9_undo 23 = .ok (.getfield 32, 3) := by decide +kernel
theorem dX9_undo_26 : decode cX9_undo 26 = .ok (.invokevirtual 138, 3) := by decide +kernel
theorem dX9_undo_29 : decode cX9_undo 29 = .ok (.ireturn, 1) := by decide +kernel
theorem dX9_of_0 : decode cX9_of 0 = .ok (.aload_n 0, 1) := by decide +kernel
theorem dX9_of_1 : decode cX9_of 1 = .ok (.iload_n 1, 1) := by decide +kernel
theorem dX9_of_2 : decode cX9_of 2 = .ok (.invokevirtual 91, 3) := by decide +kernel
theorem dX9_of_5 : decode cX9_of 5 = .ok (.ifCond .ne 8, 3) := by decide +kernel
theorem dX9_of_8 : decode cX9_of 8 = .ok (.aload_n 0, 1) := by decide +kernel
theorem dX9_of_9 : decode cX9_of 9 = .ok (.invokevirtual 76, 3) := by decide +kernel
theorem dX9_of_12 : decode cX9_of 12 = .ok (.ireturn, 1) := by decide +kernel
theorem dX9_of_13 : decode cX9_of 13 = .ok (.iload_n 2, 1) := by decide +kernel
theorem dX9_of_14 : decode cX9_of 14 = .ok (.tableswitch 82 0 4 #[34, 44, 54, 64, 73], 34) := by decide +kernel
theorem dX9_of_48 : decode cX9_of 48 = .ok (.aload_n 0, 1) := by decide +kernel
theorem dX9_of_49 : decode cX9_of 49 = .ok (.getfield 32, 3) := by decide +kernel
theorem dX9_of_52 : decode cX9_of 52 = .ok (.getfield 141, 3) := by decide +kernel
theorem dX9_of_55 : decode cX9_of 55 = .ok (.iload_n 1, 1) := by decide +kernel
theorem dX9_of_56 : decode cX9_of 56 = .ok (.iaload, 1) := by decide +kernel
theorem dX9_of_57 : decode cX9_of 57 = .ok (.ireturn, 1) := by decide +kernel
theorem dX9_of_58 : decode cX9_of 58 = .ok (.aload_n 0, 1) := by decide +kernel
theorem dX9_of_59 : decode cX9_of 59 = .ok (.getfield 32, 3) := by decide +kernel
theorem dX9_of_62 : decode cX9_of 62 = .ok (.getfield 144, 3) := by decide +kernel
theorem dX9_of_65 : decode cX9_of 65 = .ok (.iload_n 1, 1) := by decide +kernel
theorem dX9_of_66 : decode cX9_of 66 = .ok (.iaload, 1) := by decide +kernel
theorem dX9_of_67 : decode cX9_of 67 = .ok (.ireturn, 1) := by decide +kernel
theorem dX9_of_68 : decode cX9_of 68 = .ok (.aload_n 0, 1) := by decide +kernel
theorem dX9_of_69 : decode cX9_of 69 = .ok (.getfield 32, 3) := by decide +kernel
theorem dX9_of_72 : decode cX9_of 72 = .ok (.getfield 129, 3) := by decide +kernel
theorem dX9_of_75 : decode cX9_of 75 = .ok (.iload_n 1, 1) := by decide +kernel
theorem dX9_of_76 : decode cX9_of 76 = .ok (.iaload, 1) := by decide +kernel
theorem dX9_of_77 : decode cX9_of 77 = .ok (.ireturn, 1) := by decide +kernel
theorem dX9_of_78 : decode cX9_of 78 = .ok (.aload_n 0, 1) := by decide +kernel
theorem dX9_of_79 : decode cX9_of 79 = .ok (.getfield 32, 3) := by decide +kernel
theorem dX9_of_82 : decode cX9_of 82 = .ok (.iload_n 1, 1) := by decide +kernel
theorem dX9_of_83 : decode cX9_of 83 = .ok (.invokevirtual 147, 3) := by decide +kernel
theorem dX9_of_86 : decode cX9_of 86 = .ok (.ireturn, 1) := by decide +kernel
theorem dX9_of_87 : decode cX9_of 87 = .ok (.aload_n 0, 1) := by decide +kernel
theorem dX9_of_88 : decode cX9_of 88 = .ok (.getfield 32, 3) := by decide +kernel
theorem dX9_of_91 : decode cX9_of 91 = .ok (.iload_n 1, 1) := by decide +kernel
theorem dX9_of_92 : decode cX9_of 92 = .ok (.invokevirtual 151, 3) := by decide +kernel
theorem dX9_of_95 : decode cX9_of 95 = .ok (.ireturn, 1) := by decide +kernel
theorem dX9_of_96 : decode cX9_of 96 = .ok (.aload_n 0, 1) := by decide +kernel
theorem dX9_of_97 : decode cX9_of 97 = .ok (.invokevirtual 76, 3) := by decide +kernel
theorem dX9_of_100 : decode cX9_of 100 = .ok (.ireturn, 1) := by decide +kernel
theorem dX9_worth_0 : decode cX9_worth 0 = .ok (.aload_n 0, 1) := by decide +kernel
theorem dX9_worth_1 : decode cX9_worth 1 = .ok (.iload_n 1, 1) := by decide +kernel
theorem dX9_worth_2 : decode cX9_worth 2 = .ok (.invokevirtual 91, 3) := by decide +kernel
theorem dX9_worth_5 : decode cX9_worth 5 = .ok (.ifCond .eq 13, 3) := by decide +kernel
theorem dX9_worth_8 : decode cX9_worth 8 = .ok (.iload_n 2, 1) := by decide +kernel
theorem dX9_worth_9 : decode cX9_worth 9 = .ok (.sipush 4095, 3) := by decide +kernel
theorem dX9_worth_12 : decode cX9_worth 12 = .ok (.invokestatic 72, 3) := by decide +kernel
theorem dX9_worth_15 : decode cX9_worth 15 = .ok (.ifCond .ne 8, 3) := by decide +kernel
theorem dX9_worth_18 : decode cX9_worth 18 = .ok (.aload_n 0, 1) := by decide +kernel
theorem dX9_worth_19 : decode cX9_worth 19 = .ok (.invokevirtual 76, 3) := by decide +kernel
theorem dX9_worth_22 : decode cX9_worth 22 = .ok (.ireturn, 1) := by decide +kernel
theorem dX9_worth_23 : decode cX9_worth 23 = .ok (.aload_n 0, 1) := by decide +kernel
theorem dX9_worth_24 : decode cX9_worth 24 = .ok (.getfield 32, 3) := by decide +kernel
theorem dX9_worth_27 : decode cX9_worth 27 = .ok (.iload_n 1, 1) := by decide +kernel
theorem dX9_worth_28 : decode cX9_worth 28 = .ok (.iload_n 2, 1) := by decide +kernel
theorem dX9_worth_29 : decode cX9_worth 29 = .ok (.invokevirtual 154, 3) := by decide +kernel
theorem dX9_worth_32 : decode cX9_worth 32 = .ok (.ireturn, 1) := by decide +kernel
theorem dX9_whose_0 : decode cX9_whose 0 = .ok (.iload_n 1, 1) := by decide +kernel
theorem dX9_whose_1 : decode cX9_whose 1 = .ok (.invokestatic 87, 3) := by decide +kernel
theorem dX9_whose_4 : decode cX9_whose 4 = .ok (.ifCond .eq 15, 3) := by decide +kernel
theorem dX9_whose_7 : decode cX9_whose 7 = .ok (.aload_n 0, 1) := by decide +kernel
theorem dX9_whose_8 : decode cX9_whose 8 = .ok (.getfield 32, 3) := by decide +kernel
theorem dX9_whose_11 : decode cX9_whose 11 = .ok (.getfield 97, 3) := by decide +kernel
theorem dX9_whose_14 : decode cX9_whose 14 = .ok (.iload_n 1, 1) := by decide +kernel
theorem dX9_whose_15 : decode cX9_whose 15 = .ok (.iaload, 1) := by decide +kernel
theorem dX9_whose_16 : decode cX9_whose 16 = .ok (.goto 7, 3) := by decide +kernel
theorem dX9_whose_19 : decode cX9_whose 19 = .ok (.aload_n 0, 1) := by decide +kernel
theorem dX9_whose_20 : decode cX9_whose 20 = .ok (.invokevirtual 94, 3) := by decide +kernel
theorem dX9_whose_23 : decode cX9_whose 23 = .ok (.ireturn, 1) := by decide +kernel
theorem dX9_enough_0 : decode cX9_enough 0 = .ok (.aload_n 0, 1) := by decide +kernel
theorem dX9_enough_1 : decode cX9_enough 1 = .ok (.getfield 32, 3) := by decide +kernel
theorem dX9_enough_4 : decode cX9_enough 4 = .ok (.invokevirtual 158, 3) := by decide +kernel
theorem dX9_enough_7 : decode cX9_enough 7 = .ok (.ireturn, 1) := by decide +kernel
theorem dX9_envy_0 : decode cX9_envy 0 = .ok (.aload_n 0, 1) := by decide +kernel
theorem dX9_envy_1 : decode cX9_envy 1 = .ok (.iload_n 1, 1) := by decide +kernel
theorem dX9_envy_2 : decode cX9_envy 2 = .ok (.invokevirtual 91, 3) := by decide +kernel
theorem dX9_envy_5 : decode cX9_envy 5 = .ok (.ifCond .eq 14, 3) := by decide +kernel
theorem dX9_envy_8 : decode cX9_envy 8 = .ok (.aload_n 0, 1) := by decide +kernel
theorem dX9_envy_9 : decode cX9_envy 9 = .ok (.getfield 32, 3) := by decide +kernel
theorem dX9_envy_12 : decode cX9_envy 12 = .ok (.iload_n 1, 1) := by decide +kernel
theorem dX9_envy_13 : decode cX9_envy 13 = .ok (.invokevirtual 161, 3) := by decide +kernel
theorem dX9_envy_16 : decode cX9_envy 16 = .ok (.goto 7, 3) := by decide +kernel
theorem dX9_envy_19 : decode cX9_envy 19 = .ok (.aload_n 0, 1) := by decide +kernel
theorem dX9_envy_20 : decode cX9_envy 20 = .ok (.invokevirtual 76, 3) := by decide +kernel
theorem dX9_envy_23 : decode cX9_envy 23 = .ok (.ireturn, 1) := by decide +kernel
theorem dX9_fair_0 : decode cX9_fair 0 = .ok (.aload_n 0, 1) := by decide +kernel
theorem dX9_fair_1 : decode cX9_fair 1 = .ok (.iload_n 1, 1) := by decide +kernel
theorem dX9_fair_2 : decode cX9_fair 2 = .ok (.invokevirtual 91, 3) := by decide +kernel
theorem dX9_fair_5 : decode cX9_fair 5 = .ok (.ifCond .ne 8, 3) := by decide +kernel
theorem dX9_fair_8 : decode cX9_fair 8 = .ok (.aload_n 0, 1) := by decide +kernel
theorem dX9_fair_9 : decode cX9_fair 9 = .ok (.invokevirtual 76, 3) := by decide +kernel
theorem dX9_fair_12 : decode cX9_fair 12 = .ok (.ireturn, 1) := by decide +kernel
theorem dX9_fair_13 : decode cX9_fair 13 = .ok (.aload_n 0, 1) := by decide +kernel
theorem dX9_fair_14 : decode cX9_fair 14 = .ok (.getfield 32, 3) := by decide +kernel
theorem dX9_fair_17 : decode cX9_fair 17 = .ok (.iload_n 1, 1) := by decide +kernel
theorem dX9_fair_18 : decode cX9_fair 18 = .ok (.aload_n 0, 1) := by decide +kernel
theorem dX9_fair_19 : decode cX9_fair 19 = .ok (.getfield 32, 3) := by decide +kernel
theorem dX9_fair_22 : decode cX9_fair 22 = .ok (.iload_n 1, 1) := by decide +kernel
theorem dX9_fair_23 : decode cX9_fair 23 = .ok (.invokevirtual 147, 3) := by decide +kernel
theorem dX9_fair_26 : decode cX9_fair 26 = .ok (.invokevirtual 164, 3) := by decide +kernel
theorem dX9_fair_29 : decode cX9_fair 29 = .ok (.ifCond .eq 7, 3) := by decide +kernel
theorem dX9_fair_32 : decode cX9_fair 32 = .ok (.iconst 1, 1) := by decide +kernel
theorem dX9_fair_33 : decode cX9_fair 33 = .ok (.goto 4, 3) := by decide +kernel
theorem dX9_fair_36 : decode cX9_fair 36 = .ok (.iconst 0, 1) := by decide +kernel
theorem dX9_fair_37 : decode cX9_fair 37 = .ok (.ireturn, 1) := by decide +kernel
theorem dX9_pieces_0 : decode cX9_pieces 0 = .ok (.iload_n 1, 1) := by decide +kernel
theorem dX9_pieces_1 : decode cX9_pieces 1 = .ok (.iconst (-1), 1) := by decide +kernel
theorem dX9_pieces_2 : decode cX9_pieces 2 = .ok (.if_icmp .ge 8, 3) := by decide +kernel
theorem dX9_pieces_5 : decode cX9_pieces 5 = .ok (.aload_n 0, 1) := by decide +kernel
theorem dX9_pieces_6 : decode cX9_pieces 6 = .ok (.invokevirtual 94, 3) := by decide +kernel
theorem dX9_pieces_9 : decode cX9_pieces 9 = .ok (.ireturn, 1) := by decide +kernel
theorem dX9_pieces_10 : decode cX9_pieces 10 = .ok (.aload_n 0, 1) := by decide +kernel
theorem dX9_pieces_11 : decode cX9_pieces 11 = .ok (.getfield 50, 3) := by decide +kernel
theorem dX9_pieces_14 : decode cX9_pieces 14 = .ok (.aload_n 0, 1) := by decide +kernel
theorem dX9_pieces_15 : decode cX9_pieces 15 = .ok (.getfield 32, 3) := by decide +kernel
theorem dX9_pieces_18 : decode cX9_pieces 18 = .ok (.iconst 0, 1) := by decide +kernel
theorem dX9_pieces_19 : decode cX9_pieces 19 = .ok (.iconst 0, 1) := by decide +kernel
theorem dX9_pieces_20 : decode cX9_pieces 20 = .ok (.iconst 0, 1) := by decide +kernel
theorem dX9_pieces_21 : decode cX9_pieces 21 = .ok (.invokestatic 167, 3) := by decide +kernel
theorem dX9_pieces_24 : decode cX9_pieces 24 = .ok (.aload_n 0, 1) := by decide +kernel
theorem dX9_pieces_25 : decode cX9_pieces 25 = .ok (.getfield 50, 3) := by decide +kernel
theorem dX9_pieces_28 : decode cX9_pieces 28 = .ok (.getfield 171, 3) := by decide +kernel
theorem dX9_pieces_31 : decode cX9_pieces 31 = .ok (.iconst (-1), 1) := by decide +kernel
theorem dX9_pieces_32 : decode cX9_pieces 32 = .ok (.if_icmp .eq 8, 3) := by decide +kernel
theorem dX9_pieces_35 : decode cX9_pieces 35 = .ok (.iload_n 1, 1) := by decide +kernel
theorem dX9_pieces_36 : decode cX9_pieces 36 = .ok (.iconst (-1), 1) := by decide +kernel
theorem dX9_pieces_37 : decode cX9_pieces 37 = .ok (.if_icmp .ne 11, 3) := by decide +kernel
theorem dX9_pieces_40 : decode cX9_pieces 40 = .ok (.aload_n 0, 1) := by decide +kernel
theorem dX9_pieces_41 : decode cX9_pieces 41 = .ok (.getfield 50, 3) := by decide +kernel
theorem dX9_pieces_44 : decode cX9_pieces 44 = .ok (.getfield 171, 3) := by decide +kernel
theorem dX9_pieces_47 : decode cX9_pieces 47 = .ok (.ireturn, 1) := by decide +kernel
theorem dX9_pieces_48 : decode cX9_pieces 48 = .ok (.iload_n 1, 1) := by decide +kernel
theorem dX9_pieces_49 : decode cX9_pieces 49 = .ok (.aload_n 0, 1) := by decide +kernel
theorem dX9_pieces_50 : decode cX9_pieces 50 = .ok (.getfield 32, 3) := by decide +kernel
theorem dX9_pieces_53 : decode cX9_pieces 53 = .ok (.getfield 65, 3) := by decide +kernel
theorem dX9_pieces_56 : decode cX9_pieces 56 = .ok (.if_icmp .ge 15, 3) := by decide +kernel
theorem dX9_pieces_59 : decode cX9_pieces 59 = .ok (.aload_n 0, 1) := by decide +kernel
theorem dX9_pieces_60 : decode cX9_pieces 60 = .ok (.getfield 50, 3) := by decide +kernel
theorem dX9_pieces_63 : decode cX9_pieces 63 = .ok (.getfield 174, 3) := by decide +kernel
theorem dX9_pieces_66 : decode cX9_pieces 66 = .ok (.iload_n 1, 1) := by decide +kernel
theorem dX9_pieces_67 : decode cX9_pieces 67 = .ok (.iaload, 1) := by decide +kernel
theorem dX9_pieces_68 : decode cX9_pieces 68 = .ok (.goto 5, 3) := by decide +kernel
theorem dX9_pieces_71 : decode cX9_pieces 71 = .ok (.bipush (-5), 2) := by decide +kernel
theorem dX9_pieces_73 : decode cX9_pieces 73 = .ok (.ireturn, 1) := by decide +kernel
theorem dX9_swaps_0 : decode cX9_swaps 0 = .ok (.iload_n 1, 1) := by decide +kernel
theorem dX9_swaps_1 : decode cX9_swaps 1 = .ok (.iconst (-1), 1) := by decide +kernel
theorem dX9_swaps_2 : decode cX9_swaps 2 = .ok (.if_icmp .ge 8, 3) := by decide +kernel
theorem dX9_swaps_5 : decode cX9_swaps 5 = .ok (.aload_n 0, 1) := by decide +kernel
theorem dX9_swaps_6 : decode cX9_swaps 6 = .ok (.invokevirtual 94, 3) := by decide +kernel
theorem dX9_swaps_9 : decode cX9_swaps 9 = .ok (.ireturn, 1) := by decide +kernel
theorem dX9_swaps_10 : decode cX9_swaps 10 = .ok (.iload_n 1, 1) := by decide +kernel
theorem dX9_swaps_11 : decode cX9_swaps 11 = .ok (.iconst (-1), 1) := by decide +kernel
theorem dX9_swaps_12 : decode cX9_swaps 12 = .ok (.if_icmp .ne 11, 3) := by decide +kernel
theorem dX9_swaps_15 : decode cX9_swaps 15 = .ok (.aload_n 0, 1) := by decide +kernel
theorem dX9_swaps_16 : decode cX9_swaps 16 = .ok (.getfield 32, 3) := by decide +kernel
theorem dX9_swaps_19 : decode cX9_swaps 19 = .ok (.invokevirtual 177, 3) := by decide +kernel
theorem dX9_swaps_22 : decode cX9_swaps 22 = .ok (.ireturn, 1) := by decide +kernel
theorem dX9_swaps_23 : decode cX9_swaps 23 = .ok (.aload_n 0, 1) := by decide +kernel
theorem dX9_swaps_24 : decode cX9_swaps 24 = .ok (.getfield 32, 3) := by decide +kernel
theorem dX9_swaps_27 : decode cX9_swaps 27 = .ok (.iload_n 1, 1) := by decide +kernel
theorem dX9_swaps_28 : decode cX9_swaps 28 = .ok (.invokevirtual 180, 3) := by decide +kernel
theorem dX9_swaps_31 : decode cX9_swaps 31 = .ok (.istore_n 2, 1) := by decide +kernel
theorem dX9_swaps_32 : decode cX9_swaps 32 = .ok (.iload_n 2, 1) := by decide +kernel
theorem dX9_swaps_33 : decode cX9_swaps 33 = .ok (.iconst (-1), 1) := by decide +kernel
theorem dX9_swaps_34 : decode cX9_swaps 34 = .ok (.if_icmp .ne 8, 3) := by decide +kernel
theorem dX9_swaps_37 : decode cX9_swaps 37 = .ok (.bipush (-5), 2) := by decide +kernel
theorem dX9_swaps_39 : decode cX9_swaps 39 = .ok (.goto 4, 3) := by decide +kernel
theorem dX9_swaps_42 : decode cX9_swaps 42 = .ok (.iload_n 2, 1) := by decide +kernel
theorem dX9_swaps_43 : decode cX9_swaps 43 = .ok (.ireturn, 1) := by decide +kernel
theorem dX9_steps_0 : decode cX9_steps 0 = .ok (.aload_n 0, 1) := by decide +kernel
theorem dX9_steps_1 : decode cX9_steps 1 = .ok (.getfield 36, 3) := by decide +kernel
theorem dX9_steps_4 : decode cX9_steps 4 = .ok (.aload_n 0, 1) := by decide +kernel
theorem dX9_steps_5 : decode cX9_steps 5 = .ok (.getfield 32, 3) := by decide +kernel
theorem dX9_steps_8 : decode cX9_steps 8 = .ok (.invokevirtual 115, 3) := by decide +kernel
theorem dX9_steps_11 : decode cX9_steps 11 = .ok (.iconst 0, 1) := by decide +kernel
theorem dX9_steps_12 : decode cX9_steps 12 = .ok (.istore_n 1, 1) := by decide +kernel
theorem dX9_steps_13 : decode cX9_steps 13 = .ok (.iload_n 1, 1) := by decide +kernel
theorem dX9_steps_14 : decode cX9_steps 14 = .ok (.bipush 99, 2) := by decide +kernel
theorem dX9_steps_16 : decode cX9_steps 16 = .ok (.if_icmp .ge 41, 3) := by decide +kernel
theorem dX9_steps_19 : decode cX9_steps 19 = .ok (.aload_n 0, 1) := by decide +kernel
theorem dX9_steps_20 : decode cX9_steps 20 = .ok (.getfield 36, 3) := by decide +kernel
theorem dX9_steps_23 : decode cX9_steps 23 = .ok (.iconst 0, 1) := by decide +kernel
theorem dX9_steps_24 : decode cX9_steps 24 = .ok (.invokevirtual 180, 3) := by decide +kernel
theorem dX9_steps_27 : decode cX9_steps 27 = .ok (.istore_n 2, 1) := by decide +kernel
theorem dX9_steps_28 : decode cX9_steps 28 = .ok (.iload_n 2, 1) := by decide +kernel
theorem dX9_steps_29 : decode cX9_steps 29 = .ok (.iconst (-1), 1) := by decide +kernel
theorem dX9_steps_30 : decode cX9_steps 30 = .ok (.if_icmp .ne 6, 3) := by decide +kernel
theorem dX9_steps_33 : decode cX9_steps 33 = .ok (.goto 24, 3) := by decide +kernel
theorem dX9_steps_36 : decode cX9_steps 36 = .ok (.aload_n 0, 1) := by decide +kernel
theorem dX9_steps_37 : decode cX9_steps 37 = .ok (.getfield 36, 3) := by decide +kernel
theorem dX9_steps_40 : decode cX9_steps 40 = .ok (.iload_n 2, 1) := by decide +kernel
theorem dX9_steps_41 : decode cX9_steps 41 = .ok (.bipush 100, 2) := by decide +kernel
theorem dX9_steps_43 : decode cX9_steps 43 = .ok (.idiv, 1) := by decide +kernel
theorem dX9_steps_44 : decode cX9_steps 44 = .ok (.iload_n 2, 1) := by decide +kernel
theorem dX9_steps_45 : decode cX9_steps 45 = .ok (.bipush 100, 2) := by decide +kernel
theorem dX9_steps_47 : decode cX9_steps 47 = .ok (.irem, 1) := by decide +kernel
theorem dX9_steps_48 : decode cX9_steps 48 = .ok (.invokevirtual 125, 3) := by decide +kernel
theorem dX9_steps_51 : decode cX9_steps 51 = .ok (.iinc 1 1, 3) := by decide +kernel
theorem dX9_steps_54 : decode cX9_steps 54 = .ok (.goto (-41), 3) := by decide +kernel
theorem dX9_steps_57 : decode cX9_steps 57 = .ok (.iload_n 1, 1) := by decide +kernel
theorem dX9_steps_58 : decode cX9_steps 58 = .ok (.ireturn, 1) := by decide +kernel
theorem dX9_sale_0 : decode cX9_sale 0 = .ok (.iload_n 1, 1) := by decide +kernel
theorem dX9_sale_1 : decode cX9_sale 1 = .ok (.invokestatic 87, 3) := by decide +kernel
theorem dX9_sale_4 : decode cX9_sale 4 = .ok (.ifCond .eq 11, 3) := by decide +kernel
theorem dX9_sale_7 : decode cX9_sale 7 = .ok (.iload_n 2, 1) := by decide +kernel
theorem dX9_sale_8 : decode cX9_sale 8 = .ok (.iconst 1, 1) := by decide +kernel
theorem dX9_sale_9 : decode cX9_sale 9 = .ok (.invokestatic 72, 3) := by decide +kernel
theorem dX9_sale_12 : decode cX9_sale 12 = .ok (.ifCond .ne 8, 3) := by decide +kernel
theorem dX9_sale_15 : decode cX9_sale 15 = .ok (.aload_n 0, 1) := by decide +kernel
theorem dX9_sale_16 : decode cX9_sale 16 = .ok (.invokevirtual 76, 3) := by decide +kernel
theorem dX9_sale_19 : decode cX9_sale 19 = .ok (.ireturn, 1) := by decide +kernel
theorem dX9_sale_20 : decode cX9_sale 20 = .ok (.aload_n 0, 1) := by decide +kernel
theorem dX9_sale_21 : decode cX9_sale 21 = .ok (.getfield 32, 3) := by decide +kernel
theorem dX9_sale_24 : decode cX9_sale 24 = .ok (.iload_n 1, 1) := by decide +kernel
theorem dX9_sale_25 : decode cX9_sale 25 = .ok (.invokevirtual 183, 3) := by decide +kernel
theorem dX9_sale_28 : decode cX9_sale 28 = .ok (.istore_n 3, 1) := by decide +kernel
theorem dX9_sale_29 : decode cX9_sale 29 = .ok (.iload_n 3, 1) := by decide +kernel
theorem dX9_sale_30 : decode cX9_sale 30 = .ok (.iconst (-1), 1) := by decide +kernel
theorem dX9_sale_31 : decode cX9_sale 31 = .ok (.if_icmp .eq 7, 3) := by decide +kernel
theorem dX9_sale_34 : decode cX9_sale 34 = .ok (.iload_n 2, 1) := by decide +kernel
theorem dX9_sale_35 : decode cX9_sale 35 = .ok (.ifCond .ne 5, 3) := by decide +kernel
theorem dX9_sale_38 : decode cX9_sale 38 = .ok (.iload_n 3, 1) := by decide +kernel
theorem dX9_sale_39 : decode cX9_sale 39 = .ok (.ireturn, 1) := by decide +kernel
theorem dX9_sale_40 : decode cX9_sale 40 = .ok (.aload_n 0, 1) := by decide +kernel
theorem dX9_sale_41 : decode cX9_sale 41 = .ok (.getfield 32, 3) := by decide +kernel
theorem dX9_sale_44 : decode cX9_sale 44 = .ok (.iload_n 1, 1) := by decide +kernel
theorem dX9_sale_45 : decode cX9_sale 45 = .ok (.iload_n 3, 1) := by decide +kernel
theorem dX9_sale_46 : decode cX9_sale 46 = .ok (.invokevirtual 186, 3) := by decide +kernel
theorem dX9_sale_49 : decode cX9_sale 49 = .ok (.ireturn, 1) := by decide +kernel
theorem dX9_longest_0 : decode cX9_longest 0 = .ok (.iload_n 1, 1) := by decide +kernel
theorem dX9_longest_1 : decode cX9_longest 1 = .ok (.iconst 1, 1) := by decide +kernel
theorem dX9_longest_2 : decode cX9_longest 2 = .ok (.invokestatic 72, 3) := by decide +kernel
theorem dX9_longest_5 : decode cX9_longest 5 = .ok (.ifCond .ne 8, 3) := by decide +kernel
theorem dX9_longest_8 : decode cX9_longest 8 = .ok (.aload_n 0, 1) := by decide +kernel
theorem dX9_longest_9 : decode cX9_longest 9 = .ok (.invokevirtual 76, 3) := by decide +kernel
theorem dX9_longest_12 : decode cX9_longest 12 = .ok (.ireturn, 1) := by decide +kernel
theorem dX9_longest_13 : decode cX9_longest 13 = .ok (.iconst 0, 1) := by decide +kernel
theorem dX9_longest_14 : decode cX9_longest 14 = .ok (.istore_n 2, 1) := by decide +kernel
theorem dX9_longest_15 : decode cX9_longest 15 = .ok (.iconst (-1), 1) := by decide +kernel
theorem dX9_longest_16 : decode cX9_longest 16 = .ok (.istore_n 3, 1) := by decide +kernel
theorem dX9_longest_17 : decode cX9_longest 17 = .ok (.iconst 0, 1) := by decide +kernel
theorem dX9_longest_18 : decode cX9_longest 18 = .ok (.istore 4, 2) := by decide +kernel
theorem dX9_longest_20 : decode cX9_longest 20 = .ok (.iload 4, 2) := by decide +kernel
theorem dX9_longest_22 : decode cX9_longest 22 = .ok (.bipush 12, 2) := by decide +kernel
theorem dX9_longest_24 : decode cX9_longest 24 = .ok (.if_icmp .ge 32, 3) := by decide +kernel
theorem dX9_longest_27 : decode cX9_longest 27 = .ok (.aload_n 0, 1) := by decide +kernel
theorem dX9_longest_28 : decode cX9_longest 28 = .ok (.getfield 32, 3) := by decide +kernel
theorem dX9_longest_31 : decode cX9_longest 31 = .ok (.iload 4, 2) := by decide +kernel
theorem dX9_longest_33 : decode cX9_longest 33 = .ok (.invokevirtual 189, 3) := by decide +kernel
theorem dX9_longest_36 : decode cX9_longest 36 = .ok (.istore 5, 2) := by decide +kernel
theorem dX9_longest_38 : decode cX9_longest 38 = .ok (.iload 5, 2) := by decide +kernel
theorem dX9_longest_40 : decode cX9_longest 40 = .ok (.iload_n 2, 1) := by decide +kernel
theorem dX9_longest_41 : decode cX9_longest 41 = .ok (.if_icmp .le 9, 3) := by decide +kernel
theorem dX9_longest_44 : decode cX9_longest 44 = .ok (.iload 5, 2) := by decide +kernel
theorem dX9_longest_46 : decode cX9_longest 46 = .ok (.istore_n 2, 1) := by decide +kernel
theorem dX9_longest_47 : decode cX9_longest 47 = .ok (.iload 4, 2) := by decide +kernel
theorem dX9_longest_49 : decode cX9_longest 49 = .ok (.istore_n 3, 1) := by decide +kernel
theorem dX9_longest_50 : decode cX9_longest 50 = .ok (.iinc 4 1, 3) := by decide +kernel
theorem dX9_longest_53 : decode cX9_longest 53 = .ok (.goto (-33), 3) := by decide +kernel
theorem dX9_longest_56 : decode cX9_longest 56 = .ok (.iload_n 1, 1) := by decide +kernel
theorem dX9_longest_57 : decode cX9_longest 57 = .ok (.ifCond .ne 7, 3) := by decide +kernel
theorem dX9_longest_60 : decode cX9_longest 60 = .ok (.iload_n 3, 1) := by decide +kernel
theorem dX9_longest_61 : decode cX9_longest 61 = .ok (.goto 4, 3) := by decide +kernel
theorem dX9_longest_64 : decode cX9_longest 64 = .ok (.iload_n 2, 1) := by decide +kernel
theorem dX9_longest_65 : decode cX9_longest 65 = .ok (.ireturn, 1) := by decide +kernel
theorem dX9_together_0 : decode cX9_together 0 = .ok (.aload_n 0, 1) := by decide +kernel
theorem dX9_together_1 : decode cX9_together 1 = .ok (.iload_n 1, 1) := by decide +kernel
theorem dX9_together_2 : decode cX9_together 2 = .ok (.invokevirtual 91, 3) := by decide +kernel
theorem dX9_together_5 : decode cX9_together 5 = .ok (.ifCond .eq 16, 3) := by decide +kernel
theorem dX9_together_8 : decode cX9_together 8 = .ok (.aload_n 0, 1) := by decide +kernel
theorem dX9_together_9 : decode cX9_together 9 = .ok (.iload_n 2, 1) := by decide +kernel
theorem dX9_together_10 : decode cX9_together 10 = .ok (.invokevirtual 91, 3) := by decide +kernel
theorem dX9_together_13 : decode cX9_together 13 = .ok (.ifCond .eq 8, 3) := by decide +kernel
theorem dX9_together_16 : decode cX9_together 16 = .ok (.iload_n 1, 1) := by decide +kernel
theorem dX9_together_17 : decode cX9_together 17 = .ok (.iload_n 2, 1) := by decide +kernel
theorem dX9_together_18 : decode cX9_together 18 = .ok (.if_icmp .ne 8, 3) := by decide +kernel
theorem dX9_together_21 : decode cX9_together 21 = .ok (.aload_n 0, 1) := by decide +kernel
theorem dX9_together_22 : decode cX9_together 22 = .ok (.invokevirtual 76, 3) := by decide +kernel
theorem dX9_together_25 : decode cX9_together 25 = .ok (.ireturn, 1) := by decide +kernel
theorem dX9_together_26 : decode cX9_together 26 = .ok (.aload_n 0, 1) := by decide +kernel
theorem dX9_together_27 : decode cX9_together 27 = .ok (.getfield 32, 3) := by decide +kernel
theorem dX9_together_30 : decode cX9_together 30 = .ok (.iload_n 1, 1) := by decide +kernel
theorem dX9_together_31 : decode cX9_together 31 = .ok (.invokevirtual 147, 3) := by decide +kernel
theorem dX9_together_34 : decode cX9_together 34 = .ok (.aload_n 0, 1) := by decide +kernel
theorem dX9_together_35 : decode cX9_together 35 = .ok (.getfield 32, 3) := by decide +kernel
theorem dX9_together_38 : decode cX9_together 38 = .ok (.iload_n 2, 1) := by decide +kernel
theorem dX9_together_39 : decode cX9_together 39 = .ok (.invokevirtual 147, 3) := by decide +kernel
theorem dX9_together_42 : decode cX9_together 42 = .ok (.ior, 1) := by decide +kernel
theorem dX9_together_43 : decode cX9_together 43 = .ok (.istore_n 3, 1) := by decide +kernel
theorem dX9_together_44 : decode cX9_together 44 = .ok (.iconst 0, 1) := by decide +kernel
theorem dX9_together_45 : decode cX9_together 45 = .ok (.istore 4, 2) := by decide +kernel
theorem dX9_together_47 : decode cX9_together 47 = .ok (.iconst 0, 1) := by decide +kernel
theorem dX9_together_48 : decode cX9_together 48 = .ok (.istore 5, 2) := by decide +kernel
theorem dX9_together_50 : decode cX9_together 50 = .ok (.iconst 0, 1) := by decide +kernel
theorem dX9_together_51 : decode cX9_together 51 = .ok (.istore 6, 2) := by decide +kernel
theorem dX9_together_53 : decode cX9_together 53 = .ok (.iload 6, 2) := by decide +kernel
theorem dX9_together_55 : decode cX9_together 55 = .ok (.bipush 12, 2) := by decide +kernel
theorem dX9_together_57 : decode cX9_together 57 = .ok (.if_icmp .ge 37, 3) := by decide +kernel
theorem dX9_together_60 : decode cX9_together 60 = .ok (.iload_n 3, 1) := by decide +kernel
theorem dX9_together_61 : decode cX9_together 61 = .ok (.iload 6, 2) := by decide +kernel
theorem dX9_together_63 : decode cX9_together 63 = .ok (.invokestatic 192, 3) := by decide +kernel
theorem dX9_together_66 : decode cX9_together 66 = .ok (.ifCond .eq 10, 3) := by decide +kernel
theorem dX9_together_69 : decode cX9_together 69 = .ok (.iload 5, 2) := by decide +kernel
theorem dX9_together_71 : decode cX9_together 71 = .ok (.iconst 1, 1) := by decide +kernel
theorem dX9_together_72 : decode cX9_together 72 = .ok (.iadd, 1) := by decide +kernel
theorem dX9_together_73 : decode cX9_together 73 = .ok (.goto 4, 3) := by decide +kernel
theorem dX9_together_76 : decode cX9_together 76 = .ok (.iconst 0, 1) := by decide +kernel
theorem dX9_together_77 : decode cX9_together 77 = .ok (.istore 5, 2) := by decide +kernel
theorem dX9_together_79 : decode cX9_together 79 = .ok (.iload 4, 2) := by decide +kernel
theorem dX9_together_81 : decode cX9_together 81 = .ok (.iload 5, 2) := by decide +kernel
theorem dX9_together_83 : decode cX9_together 83 = .ok (.invokestatic 195, 3) := by decide +kernel
theorem dX9_together_86 : decode cX9_together 86 = .ok (.istore 4, 2) := by decide +kernel
theorem dX9_together_88 : decode cX9_together 88 = .ok (.iinc 6 1, 3) := by decide +kernel
theorem dX9_together_91 : decode cX9_together 91 = .ok (.goto (-38), 3) := by decide +kernel
theorem dX9_together_94 : decode cX9_together 94 = .ok (.iload 4, 2) := by decide +kernel
theorem dX9_together_96 : decode cX9_together 96 = .ok (.ireturn, 1) := by decide +kernel
theorem dX9_note_0 : decode cX9_note 0 = .ok (.aload_n 0, 1) := by decide +kernel
theorem dX9_note_1 : decode cX9_note 1 = .ok (.iload_n 1, 1) := by decide +kernel
theorem dX9_note_2 : decode cX9_note 2 = .ok (.invokevirtual 91, 3) := by decide +kernel
theorem dX9_note_5 : decode cX9_note 5 = .ok (.ifCond .eq 28, 3) := by decide +kernel
theorem dX9_note_8 : decode cX9_note 8 = .ok (.iload_n 2, 1) := by decide +kernel
theorem dX9_note_9 : decode cX9_note 9 = .ok (.invokestatic 87, 3) := by decide +kernel
theorem dX9_note_12 : decode cX9_note 12 = .ok (.ifCond .eq 21, 3) := by decide +kernel
theorem dX9_note_15 : decode cX9_note 15 = .ok (.iload_n 3, 1) := by decide +kernel
theorem dX9_note_16 : decode cX9_note 16 = .ok (.bipush 20, 2) := by decide +kernel
theorem dX9_note_18 : decode cX9_note 18 = .ok (.invokestatic 72, 3) := by decide +kernel
theorem dX9_note_21 : decode cX9_note 21 = .ok (.ifCond .eq 12, 3) := by decide +kernel
theorem dX9_note_24 : decode cX9_note 24 = .ok (.iload 4, 2) := by decide +kernel
theorem dX9_note_26 : decode cX9_note 26 = .ok (.iconst 1, 1) := by decide +kernel
theorem dX9_note_27 : decode cX9_note 27 = .ok (.invokestatic 72, 3) := by decide +kernel
theorem dX9_note_30 : decode cX9_note 30 = .ok (.ifCond .ne 8, 3) := by decide +kernel
theorem dX9_note_33 : decode cX9_note 33 = .ok (.aload_n 0, 1) := by decide +kernel
theorem dX9_note_34 : decode cX9_note 34 = .ok (.invokevirtual 76, 3) := by decide +kernel
theorem dX9_note_37 : decode cX9_note 37 = .ok (.ireturn, 1) := by decide +kernel
theorem dX9_note_38 : decode cX9_note 38 = .ok (.aload_n 0, 1) := by decide +kernel
theorem dX9_note_39 : decode cX9_note 39 = .ok (.getfield 32, 3) := by decide +kernel
theorem dX9_note_42 : decode cX9_note 42 = .ok (.getfield 200, 3) := by decide +kernel
theorem dX9_note_45 : decode cX9_note 45 = .ok (.bipush 6, 2) := by decide +kernel
theorem dX9_note_47 : decode cX9_note 47 = .ok (.if_icmp .lt 8, 3) := by decide +kernel
theorem dX9_note_50 : decode cX9_note 50 = .ok (.aload_n 0, 1) := by decide +kernel
theorem dX9_note_51 : decode cX9_note 51 = .ok (.invokevirtual 80, 3) := by decide +kernel
theorem dX9_note_54 : decode cX9_note 54 = .ok (.ireturn, 1) := by decide +kernel
theorem dX9_note_55 : decode cX9_note 55 = .ok (.aload_n 0, 1) := by decide +kernel
theorem dX9_note_56 : decode cX9_note 56 = .ok (.getfield 32, 3) := by decide +kernel
theorem dX9_note_59 : decode cX9_note 59 = .ok (.iload_n 1, 1) := by decide +kernel
theorem dX9_note_60 : decode cX9_note 60 = .ok (.iload_n 2, 1) := by decide +kernel
theorem dX9_note_61 : decode cX9_note 61 = .ok (.iload_n 3, 1) := by decide +kernel
theorem dX9_note_62 : decode cX9_note 62 = .ok (.iload 4, 2) := by decide +kernel
theorem dX9_note_64 : decode cX9_note 64 = .ok (.invokevirtual 203, 3) := by decide +kernel
theorem dX9_note_67 : decode cX9_note 67 = .ok (.ireturn, 1) := by decide +kernel
theorem dX9_forget_0 : decode cX9_forget 0 = .ok (.aload_n 0, 1) := by decide +kernel
theorem dX9_forget_1 : decode cX9_forget 1 = .ok (.getfield 32, 3) := by decide +kernel
theorem dX9_forget_4 : decode cX9_forget 4 = .ok (.getfield 200, 3) := by decide +kernel
theorem dX9_forget_7 : decode cX9_forget 7 = .ok (.istore_n 1, 1) := by decide +kernel
theorem dX9_forget_8 : decode cX9_forget 8 = .ok (.aload_n 0, 1) := by decide +kernel
theorem dX9_forget_9 : decode cX9_forget 9 = .ok (.getfield 32, 3) := by decide +kernel
theorem dX9_forget_12 : decode cX9_forget 12 = .ok (.iconst 0, 1) := by decide +kernel
theorem dX9_forget_13 : decode cX9_forget 13 = .ok (.putfield 200, 3) := by decide +kernel
theorem dX9_forget_16 : decode cX9_forget 16 = .ok (.iload_n 1, 1) := by decide +kernel
theorem dX9_forget_17 : decode cX9_forget 17 = .ok (.ireturn, 1) := by decide +kernel
theorem dX9_is_0 : decode cX9_is 0 = .ok (.aload_n 0, 1) := by decide +kernel
theorem dX9_is_1 : decode cX9_is 1 = .ok (.iload_n 1, 1) := by decide +kernel
theorem dX9_is_2 : decode cX9_is 2 = .ok (.invokevirtual 91, 3) := by decide +kernel
theorem dX9_is_5 : decode cX9_is 5 = .ok (.ifCond .eq 14, 3) := by decide +kernel
theorem dX9_is_8 : decode cX9_is 8 = .ok (.aload_n 0, 1) := by decide +kernel
theorem dX9_is_9 : decode cX9_is 9 = .ok (.getfield 32, 3) := by decide +kernel
theorem dX9_is_12 : decode cX9_is 12 = .ok (.iload_n 1, 1) := by decide +kernel
theorem dX9_is_13 : decode cX9_is 13 = .ok (.invokevirtual 207, 3) := by decide +kernel
theorem dX9_is_16 : decode cX9_is 16 = .ok (.goto 7, 3) := by decide +kernel
theorem dX9_is_19 : decode cX9_is 19 = .ok (.aload_n 0, 1) := by decide +kernel
theorem dX9_is_20 : decode cX9_is 20 = .ok (.invokevirtual 76, 3) := by decide +kernel
theorem dX9_is_23 : decode cX9_is 23 = .ok (.ireturn, 1) := by decide +kernel
theorem dX9_asks_0 : decode cX9_asks 0 = .ok (.aload_n 0, 1) := by decide +kernel
theorem dX9_asks_1 : decode cX9_asks 1 = .ok (.iload_n 1, 1) := by decide +kernel
theorem dX9_asks_2 : decode cX9_asks 2 = .ok (.invokevirtual 91, 3) := by decide +kernel
theorem dX9_asks_5 : decode cX9_asks 5 = .ok (.ifCond .eq 21, 3) := by decide +kernel
theorem dX9_asks_8 : decode cX9_asks 8 = .ok (.aload_n 0, 1) := by decide +kernel
theorem dX9_asks_9 : decode cX9_asks 9 = .ok (.getfield 32, 3) := by decide +kernel
theorem dX9_asks_12 : decode cX9_asks 12 = .ok (.aload_n 0, 1) := by decide +kernel
theorem dX9_asks_13 : decode cX9_asks 13 = .ok (.getfield 32, 3) := by decide +kernel
theorem dX9_asks_16 : decode cX9_asks 16 = .ok (.iload_n 1, 1) := by decide +kernel
theorem dX9_asks_17 : decode cX9_asks 17 = .ok (.invokevirtual 207, 3) := by decide +kernel
theorem dX9_asks_20 : decode cX9_asks 20 = .ok (.invokevirtual 210, 3) := by decide +kernel
theorem dX9_asks_23 : decode cX9_asks 23 = .ok (.goto 7, 3) := by decide +kernel
theorem dX9_asks_26 : decode cX9_asks 26 = .ok (.aload_n 0, 1) := by decide +kernel
theorem dX9_asks_27 : decode cX9_asks 27 = .ok (.invokevirtual 76, 3) := by decide +kernel
theorem dX9_asks_30 : decode cX9_asks 30 = .ok (.ireturn, 1) := by decide +kernel
theorem dX9_took_0 : decode cX9_took 0 = .ok (.aload_n 0, 1) := by decide +kernel
theorem dX9_took_1 : decode cX9_took 1 = .ok (.iload_n 1, 1) := by decide +kernel
theorem dX9_took_2 : decode cX9_took 2 = .ok (.invokevirtual 91, 3) := by decide +kernel
theorem dX9_took_5 : decode cX9_took 5 = .ok (.ifCond .eq 13, 3) := by decide +kernel
theorem dX9_took_8 : decode cX9_took 8 = .ok (.iload_n 2, 1) := by decide +kernel
theorem dX9_took_9 : decode cX9_took 9 = .ok (.sipush 4095, 3) := by decide +kernel
theorem dX9_took_12 : decode cX9_took 12 = .ok (.invokestatic 72, 3) := by decide +kernel
theorem dX9_took_15 : decode cX9_took 15 = .ok (.ifCond .ne 8, 3) := by decide +kernel
theorem dX9_took_18 : decode cX9_took 18 = .ok (.aload_n 0, 1) := by decide +kernel
theorem dX9_took_19 : decode cX9_took 19 = .ok (.invokevirtual 76, 3) := by decide +kernel
theorem dX9_took_22 : decode cX9_took 22 = .ok (.ireturn, 1) := by decide +kernel
theorem dX9_took_23 : decode cX9_took 23 = .ok (.aload_n 0, 1) := by decide +kernel
theorem dX9_took_24 : decode cX9_took 24 = .ok (.getfield 32, 3) := by decide +kernel
theorem dX9_took_27 : decode cX9_took 27 = .ok (.iload_n 1, 1) := by decide +kernel
theorem dX9_took_28 : decode cX9_took 28 = .ok (.iload_n 2, 1) := by decide +kernel
theorem dX9_took_29 : decode cX9_took 29 = .ok (.invokevirtual 213, 3) := by decide +kernel
theorem dX9_took_32 : decode cX9_took 32 = .ok (.ireturn, 1) := by decide +kernel
theorem dX9_owls_0 : decode cX9_owls 0 = .ok (.aload_n 0, 1) := by decide +kernel
theorem dX9_owls_1 : decode cX9_owls 1 = .ok (.iload_n 1, 1) := by decide +kernel
theorem dX9_owls_2 : decode cX9_owls 2 = .ok (.invokevirtual 91, 3) := by decide +kernel
theorem dX9_owls_5 : decode cX9_owls 5 = .ok (.ifCond .eq 12, 3) := by decide +kernel
theorem dX9_owls_8 : decode cX9_owls 8 = .ok (.iload_n 2, 1) := by decide +kernel
theorem dX9_owls_9 : decode cX9_owls 9 = .ok (.bipush 10, 2) := by decide +kernel
theorem dX9_owls_11 : decode cX9_owls 11 = .ok (.invokestatic 72, 3) := by decide +kernel
theorem dX9_owls_14 : decode cX9_owls 14 = .ok (.ifCond .ne 8, 3) := by decide +kernel
theorem dX9_owls_17 : decode cX9_owls 17 = .ok (.aload_n 0, 1) := by decide +kernel
theorem dX9_owls_18 : decode cX9_owls 18 = .ok (.invokevirtual 76, 3) := by decide +kernel
theorem dX9_owls_21 : decode cX9_owls 21 = .ok (.ireturn, 1) := by decide +kernel
theorem dX9_owls_22 : decode cX9_owls 22 = .ok (.aload_n 0, 1) := by decide +kernel
theorem dX9_owls_23 : decode cX9_owls 23 = .ok (.aload_n 0, 1) := by decide +kernel
theorem dX9_owls_24 : decode cX9_owls 24 = .ok (.getfield 32, 3) := by decide +kernel
theorem dX9_owls_27 : decode cX9_owls 27 = .ok (.iload_n 1, 1) := by decide +kernel
theorem dX9_owls_28 : decode cX9_owls 28 = .ok (.iload_n 2, 1) := by decide +kernel
theorem dX9_owls_29 : decode cX9_owls 29 = .ok (.invokevirtual 216, 3) := by decide +kernel
theorem dX9_owls_32 : decode cX9_owls 32 = .ok (.bipush 10, 2) := by decide +kernel
theorem dX9_owls_34 : decode cX9_owls 34 = .ok (.invokevirtual 219, 3) := by decide +kernel
theorem dX9_owls_37 : decode cX9_owls 37 = .ok (.iconst 1, 1) := by decide +kernel
theorem dX9_owls_38 : decode cX9_owls 38 = .ok (.ireturn, 1) := by decide +kernel
theorem dX9_terms_0 : decode cX9_terms 0 = .ok (.iload_n 1, 1) := by decide +kernel
theorem dX9_terms_1 : decode cX9_terms 1 = .ok (.ldc 222, 2) := by decide +kernel
theorem dX9_terms_3 : decode cX9_terms 3 = .ok (.invokestatic 72, 3) := by decide +kernel
theorem dX9_terms_6 : decode cX9_terms 6 = .ok (.ifCond .eq 12, 3) := by decide +kernel
theorem dX9_terms_9 : decode cX9_terms 9 = .ok (.iload_n 2, 1) := by decide +kernel
theorem dX9_terms_10 : decode cX9_terms 10 = .ok (.bipush 60, 2) := by decide +kernel
theorem dX9_terms_12 : decode cX9_terms 12 = .ok (.invokestatic 72, 3) := by decide +kernel
theorem dX9_terms_15 : decode cX9_terms 15 = .ok (.ifCond .ne 8, 3) := by decide +kernel
theorem dX9_terms_18 : decode cX9_terms 18 = .ok (.aload_n 0, 1) := by decide +kernel
theorem dX9_terms_19 : decode cX9_terms 19 = .ok (.invokevirtual 76, 3) := by decide +kernel
theorem dX9_terms_22 : decode cX9_terms 22 = .ok (.ireturn, 1) := by decide +kernel
theorem dX9_terms_23 : decode cX9_terms 23 = .ok (.aload_n 0, 1) := by decide +kernel
theorem dX9_terms_24 : decode cX9_terms 24 = .ok (.getfield 36, 3) := by decide +kernel
theorem dX9_terms_27 : decode cX9_terms 27 = .ok (.aload_n 0, 1) := by decide +kernel
theorem dX9_terms_28 : decode cX9_terms 28 = .ok (.getfield 32, 3) := by decide +kernel
theorem dX9_terms_31 : decode cX9_terms 31 = .ok (.invokevirtual 115, 3) := by decide +kernel
theorem dX9_terms_34 : decode cX9_terms 34 = .ok (.iload_n 1, 1) := by decide +kernel
theorem dX9_terms_35 : decode cX9_terms 35 = .ok (.i2l, 1) := by decide +kernel
theorem dX9_terms_36 : decode cX9_terms 36 = .ok (.lstore_n 3, 1) := by decide +kernel
theorem dX9_terms_37 : decode cX9_terms 37 = .ok (.iconst 0, 1) := by decide +kernel
theorem dX9_terms_38 : decode cX9_terms 38 = .ok (.istore 5, 2) := by decide +kernel
theorem dX9_terms_40 : decode cX9_terms 40 = .ok (.iconst 0, 1) := by decide +kernel
theorem dX9_terms_41 : decode cX9_terms 41 = .ok (.istore 6, 2) := by decide +kernel
theorem dX9_terms_43 : decode cX9_terms 43 = .ok (.iload 6, 2) := by decide +kernel
theorem dX9_terms_45 : decode cX9_terms 45 = .ok (.iload_n 2, 1) := by decide +kernel
theorem dX9_terms_46 : decode cX9_terms 46 = .ok (.if_icmp .ge 59, 3) := by decide +kernel
theorem dX9_terms_49 : decode cX9_terms 49 = .ok (.lload_n 3, 1) := by decide +kernel
theorem dX9_terms_50 : decode cX9_terms 50 = .ok (.invokestatic 223, 3) := by decide +kernel
theorem dX9_terms_53 : decode cX9_terms 53 = .ok (.lstore_n 3, 1) := by decide +kernel
theorem dX9_terms_54 : decode cX9_terms 54 = .ok (.lload_n 3, 1) := by decide +kernel
theorem dX9_terms_55 : decode cX9_terms 55 = .ok (.invokestatic 227, 3) := by decide +kernel
theorem dX9_terms_58 : decode cX9_terms 58 = .ok (.istore 7, 2) := by decide +kernel
theorem dX9_terms_60 : decode cX9_terms 60 = .ok (.lload_n 3, 1) := by decide +kernel
theorem dX9_terms_61 : decode cX9_terms 61 = .ok (.invokestatic 223, 3) := by decide +kernel
theorem dX9_terms_64 : decode cX9_terms 64 = .ok (.lstore_n 3, 1) := by decide +kernel
theorem dX9_terms_65 : decode cX9_terms 65 = .ok (.lload_n 3, 1) := by decide +kernel
theorem dX9_terms_66 : decode cX9_terms 66 = .ok (.invokestatic 227, 3) := by decide +kernel
theorem dX9_terms_69 : decode cX9_terms 69 = .ok (.istore 8, 2) := by decide +kernel
theorem dX9_terms_71 : decode cX9_terms 71 = .ok (.aload_n 0, 1) := by decide +kernel
theorem dX9_terms_72 : decode cX9_terms 72 = .ok (.getfield 36, 3) := by decide +kernel
theorem dX9_terms_75 : decode cX9_terms 75 = .ok (.iload 7, 2) := by decide +kernel
theorem dX9_terms_77 : decode cX9_terms 77 = .ok (.iload 8, 2) := by decide +kernel
theorem dX9_terms_79 : decode cX9_terms 79 = .ok (.invokevirtual 231, 3) := by decide +kernel
theorem dX9_terms_82 : decode cX9_terms 82 = .ok (.ifCond .eq 17, 3) := by decide +kernel
theorem dX9_terms_85 : decode cX9_terms 85 = .ok (.aload_n 0, 1) := by decide +kernel
theorem dX9_terms_86 : decode cX9_terms 86 = .ok (.getfield 36, 3) := by decide +kernel
theorem dX9_terms_89 : decode cX9_terms 89 = .ok (.iload 7, 2) := by decide +kernel
theorem dX9_terms_91 : decode cX9_terms 91 = .ok (.iload 8, 2) := by decide +kernel
theorem dX9_terms_93 : decode cX9_terms 93 = .ok (.invokevirtual 125, 3) := by decide +kernel
theorem dX9_terms_96 : decode cX9_terms 96 = .ok (.iinc 5 1, 3) := by decide +kernel
theorem dX9_terms_99 : decode cX9_terms 99 = .ok (.iinc 6 1, 3) := by decide +kernel
theorem dX9_terms_102 : decode cX9_terms 102 = .ok (.goto (-59), 3) := by decide +kernel
theorem dX9_terms_105 : decode cX9_terms 105 = .ok (.iload 5, 2) := by decide +kernel
theorem dX9_terms_107 : decode cX9_terms 107 = .ok (.ireturn, 1) := by decide +kernel
theorem dX9_part_0 : decode cX9_part 0 = .ok (.iload_n 1, 1) := by decide +kernel
theorem dX9_part_1 : decode cX9_part 1 = .ok (.lookupswitch 37 #[(0, 27), (1, 32)], 27) := by decide +kernel
theorem dX9_part_28 : decode cX9_part 28 = .ok (.aload_n 0, 1) := by decide +kernel
theorem dX9_part_29 : decode cX9_part 29 = .ok (.getfield 234, 3) := by decide +kernel
theorem dX9_part_32 : decode cX9_part 32 = .ok (.lreturn, 1) := by decide +kernel
theorem dX9_part_33 : decode cX9_part 33 = .ok (.aload_n 0, 1) := by decide +kernel
theorem dX9_part_34 : decode cX9_part 34 = .ok (.getfield 61, 3) := by decide +kernel
theorem dX9_part_37 : decode cX9_part 37 = .ok (.lreturn, 1) := by decide +kernel
theorem dX9_part_38 : decode cX9_part 38 = .ok (.aload_n 0, 1) := by decide +kernel
theorem dX9_part_39 : decode cX9_part 39 = .ok (.invokevirtual 76, 3) := by decide +kernel
theorem dX9_part_42 : decode cX9_part 42 = .ok (.i2l, 1) := by decide +kernel
theorem dX9_part_43 : decode cX9_part 43 = .ok (.lreturn, 1) := by decide +kernel
theorem dX9_image_0 : decode cX9_image 0 = .ok (.iload_n 1, 1) := by decide +kernel
theorem dX9_image_1 : decode cX9_image 1 = .ok (.iconst 1, 1) := by decide +kernel
theorem dX9_image_2 : decode cX9_image 2 = .ok (.invokestatic 72, 3) := by decide +kernel
theorem dX9_image_5 : decode cX9_image 5 = .ok (.ifCond .ne 8, 3) := by decide +kernel
theorem dX9_image_8 : decode cX9_image 8 = .ok (.aload_n 0, 1) := by decide +kernel
theorem dX9_image_9 : decode cX9_image 9 = .ok (.invokevirtual 76, 3) := by decide +kernel
theorem dX9_image_12 : decode cX9_image 12 = .ok (.ireturn, 1) := by decide +kernel
theorem dX9_image_13 : decode cX9_image 13 = .ok (.aload_n 0, 1) := by decide +kernel
theorem dX9_image_14 : decode cX9_image 14 = .ok (.getfield 39, 3) := by decide +kernel
theorem dX9_image_17 : decode cX9_image 17 = .ok (.iload_n 1, 1) := by decide +kernel
theorem dX9_image_18 : decode cX9_image 18 = .ok (.aaload, 1) := by decide +kernel
theorem dX9_image_19 : decode cX9_image 19 = .ok (.aload_n 0, 1) := by decide +kernel
theorem dX9_image_20 : decode cX9_image 20 = .ok (.getfield 32, 3) := by decide +kernel
theorem dX9_image_23 : decode cX9_image 23 = .ok (.invokevirtual 115, 3) := by decide +kernel
theorem dX9_image_26 : decode cX9_image 26 = .ok (.aload_n 0, 1) := by decide +kernel
theorem dX9_image_27 : decode cX9_image 27 = .ok (.getfield 43, 3) := by decide +kernel
theorem dX9_image_30 : decode cX9_image 30 = .ok (.iload_n 1, 1) := by decide +kernel
theorem dX9_image_31 : decode cX9_image 31 = .ok (.iconst 1, 1) := by decide +kernel
theorem dX9_image_32 : decode cX9_image 32 = .ok (.bastore, 1) := by decide +kernel
theorem dX9_image_33 : decode cX9_image 33 = .ok (.iconst 1, 1) := by decide +kernel
theorem dX9_image_34 : decode cX9_image 34 = .ok (.ireturn, 1) := by decide +kernel
theorem dX9_from_0 : decode cX9_from 0 = .ok (.iload_n 1, 1) := by decide +kernel
theorem dX9_from_1 : decode cX9_from 1 = .ok (.iconst 1, 1) := by decide +kernel
theorem dX9_from_2 : decode cX9_from 2 = .ok (.invokestatic 72, 3) := by decide +kernel
theorem dX9_from_5 : decode cX9_from 5 = .ok (.ifCond .ne 8, 3) := by decide +kernel
theorem dX9_from_8 : decode cX9_from 8 = .ok (.aload_n 0, 1) := by decide +kernel
theorem dX9_from_9 : decode cX9_from 9 = .ok (.invokevirtual 76, 3) := by decide +kernel
theorem dX9_from_12 : decode cX9_from 12 = .ok (.ireturn, 1) := by decide +kernel
theorem dX9_from_13 : decode cX9_from 13 = .ok (.aload_n 0, 1) := by decide +kernel
theorem dX9_from_14 : decode cX9_from 14 = .ok (.getfield 43, 3) := by decide +kernel
theorem dX9_from_17 : decode cX9_from 17 = .ok (.iload_n 1, 1) := by decide +kernel
theorem dX9_from_18 : decode cX9_from 18 = .ok (.baload, 1) := by decide +kernel
theorem dX9_from_19 : decode cX9_from 19 = .ok (.ifCond .ne 8, 3) := by decide +kernel
theorem dX9_from_22 : decode cX9_from 22 = .ok (.aload_n 0, 1) := by decide +kernel
theorem dX9_from_23 : decode cX9_from 23 = .ok (.invokevirtual 122, 3) := by decide +kernel
theorem dX9_from_26 : decode cX9_from 26 = .ok (.ireturn, 1) := by decide +kernel
theorem dX9_from_27 : decode cX9_from 27 = .ok (.aload_n 0, 1) := by decide +kernel
theorem dX9_from_28 : decode cX9_from 28 = .ok (.getfield 32, 3) := by decide +kernel
theorem dX9_from_31 : decode cX9_from 31 = .ok (.aload_n 0, 1) := by decide +kernel
theorem dX9_from_32 : decode cX9_from 32 = .ok (.getfield 39, 3) := by decide +kernel
theorem dX9_from_35 : decode cX9_from 35 = .ok (.iload_n 1, 1) := by decide +kernel
theorem dX9_from_36 : decode cX9_from 36 = .ok (.aaload, 1) := by decide +kernel
theorem dX9_from_37 : decode cX9_from 37 = .ok (.invokevirtual 115, 3) := by decide +kernel
theorem dX9_from_40 : decode cX9_from 40 = .ok (.iconst 1, 1) := by decide +kernel
theorem dX9_from_41 : decode cX9_from 41 = .ok (.ireturn, 1) := by decide +kernel
theorem dX9_status_0 : decode cX9_status 0 = .ok (.iload_n 1, 1) := by decide +kernel
theorem dX9_status_1 : decode cX9_status 1 = .ok (.tableswitch 42 0 2 #[27, 32, 37], 27) := by decide +kernel
theorem dX9_status_28 : decode cX9_status 28 = .ok (.aload_n 0, 1) := by decide +kernel
theorem dX9_status_29 : decode cX9_status 29 = .ok (.getfield 237, 3) := by decide +kernel
theorem dX9_status_32 : decode cX9_status 32 = .ok (.ireturn, 1) := by decide +kernel
theorem dX9_status_33 : decode cX9_status 33 = .ok (.aload_n 0, 1) := by decide +kernel
theorem dX9_status_34 : decode cX9_status 34 = .ok (.getfield 240, 3) := by decide +kernel
theorem dX9_status_37 : decode cX9_status 37 = .ok (.ireturn, 1) := by decide +kernel
theorem dX9_status_38 : decode cX9_status 38 = .ok (.aload_n 0, 1) := by decide +kernel
theorem dX9_status_39 : decode cX9_status 39 = .ok (.getfield 243, 3) := by decide +kernel
theorem dX9_status_42 : decode cX9_status 42 = .ok (.ireturn, 1) := by decide +kernel
theorem dX9_status_43 : decode cX9_status 43 = .ok (.aload_n 0, 1) := by decide +kernel
theorem dX9_status_44 : decode cX9_status 44 = .ok (.invokevirtual 76, 3) := by decide +kernel
theorem dX9_status_47 : decode cX9_status 47 = .ok (.pop, 1) := by decide +kernel
theorem dX9_status_48 : decode cX9_status 48 = .ok (.iconst (-1), 1) := by decide +kernel
theorem dX9_status_49 : decode cX9_status 49 = .ok (.ireturn, 1) := by decide +kernel
theorem dX9_count_0 : decode cX9_count 0 = .ok (.iload_n 1, 1) := by decide +kernel
theorem dX9_count_1 : decode cX9_count 1 = .ok (.tableswitch 102 0 6 #[43, 51, 59, 67, 78, 86, 94], 43) := by decide +kernel
theorem dX9_count_44 : decode cX9_count 44 = .ok (.aload_n 0, 1) := by decide +kernel
theorem dX9_count_45 : decode cX9_count 45 = .ok (.getfield 32, 3) := by decide +kernel
theorem dX9_count_48 : decode cX9_count 48 = .ok (.getfield 65, 3) := by decide +kernel
theorem dX9_count_51 : decode cX9_count 51 = .ok (.ireturn, 1) := by decide +kernel
theorem dX9_count_52 : decode cX9_count 52 = .ok (.aload_n 0, 1) := by decide +kernel
theorem dX9_count_53 : decode cX9_count 53 = .ok (.getfield 32, 3) := by decide +kernel
theorem dX9_count_56 : decode cX9_count 56 = .ok (.invokevirtual 138, 3) := by decide +kernel
theorem dX9_count_59 : decode cX9_count 59 = .ok (.ireturn, 1) := by decide +kernel
theorem dX9_count_60 : decode cX9_count 60 = .ok (.aload_n 0, 1) := by decide +kernel
theorem dX9_count_61 : decode cX9_count 61 = .ok (.getfield 32, 3) := by decide +kernel
theorem dX9_count_64 : decode cX9_count 64 = .ok (.invokevirtual 246, 3) := by decide +kernel
theorem dX9_count_67 : decode cX9_count 67 = .ok (.ireturn, 1) := by decide +kernel
theorem dX9_count_68 : decode cX9_count 68 = .ok (.aload_n 0, 1) := by decide +kernel
theorem dX9_count_69 : decode cX9_count 69 = .ok (.getfield 32, 3) := by decide +kernel
theorem dX9_count_72 : decode cX9_count 72 = .ok (.invokevirtual 158, 3) := by decide +kernel
theorem dX9_count_75 : decode cX9_count 75 = .ok (.invokestatic 249, 3) := by decide +kernel
theorem dX9_count_78 : decode cX9_count 78 = .ok (.ireturn, 1) := by decide +kernel
theorem dX9_count_79 : decode cX9_count 79 = .ok (.aload_n 0, 1) := by decide +kernel
theorem dX9_count_80 : decode cX9_count 80 = .ok (.getfield 32, 3) := by decide +kernel
theorem dX9_count_83 : decode cX9_count 83 = .ok (.getfield 200, 3) := by decide +kernel
theorem dX9_count_86 : decode cX9_count 86 = .ok (.ireturn, 1) := by decide +kernel
theorem dX9_count_87 : decode cX9_count 87 = .ok (.aload_n 0, 1) := by decide +kernel
theorem dX9_count_88 : decode cX9_count 88 = .ok (.getfield 32, 3) := by decide +kernel
theorem dX9_count_91 : decode cX9_count 91 = .ok (.getfield 132, 3) := by decide +kernel
theorem dX9_count_94 : decode cX9_count 94 = .ok (.ireturn, 1) := by decide +kernel
theorem dX9_count_95 : decode cX9_count 95 = .ok (.aload_n 0, 1) := by decide +kernel
theorem dX9_count_96 : decode cX9_count 96 = .ok (.getfield 57, 3) := by decide +kernel
theorem dX9_count_99 : decode cX9_count 99 = .ok (.getfield 104, 3) := by decide +kernel
theorem dX9_count_102 : decode cX9_count 102 = .ok (.ireturn, 1) := by decide +kernel
theorem dX9_count_103 : decode cX9_count 103 = .ok (.aload_n 0, 1) := by decide +kernel
theorem dX9_count_104 : decode cX9_count 104 = .ok (.invokevirtual 76, 3) := by decide +kernel
theorem dX9_count_107 : decode cX9_count 107 = .ok (.ireturn, 1) := by decide +kernel
theorem dX9_digest_0 : decode cX9_digest 0 = .ok (.ldc2_w 254, 3) := by decide +kernel
theorem dX9_digest_3 : decode cX9_digest 3 = .ok (.lstore_n 1, 1) := by decide +kernel
theorem dX9_digest_4 : decode cX9_digest 4 = .ok (.iconst 0, 1) := by decide +kernel
theorem dX9_digest_5 : decode cX9_digest 5 = .ok (.istore_n 3, 1) := by decide +kernel
theorem dX9_digest_6 : decode cX9_digest 6 = .ok (.iload_n 3, 1) := by decide +kernel
theorem dX9_digest_7 : decode cX9_digest 7 = .ok (.bipush 7, 2) := by decide +kernel
theorem dX9_digest_9 : decode cX9_digest 9 = .ok (.if_icmp .ge 22, 3) := by decide +kernel
theorem dX9_digest_12 : decode cX9_digest 12 = .ok (.ldc2_w 256, 3) := by decide +kernel
theorem dX9_digest_15 : decode cX9_digest 15 = .ok (.lload_n 1, 1) := by decide +kernel
theorem dX9_digest_16 : decode cX9_digest 16 = .ok (.lmul, 1) := by decide +kernel
theorem dX9_digest_17 : decode cX9_digest 17 = .ok (.aload_n 0, 1) := by decide +kernel
theorem dX9_digest_18 : decode cX9_digest 18 = .ok (.iload_n 3, 1) := by decide +kernel
theorem dX9_digest_19 : decode cX9_digest 19 = .ok (.invokevirtual 258, 3) := by decide +kernel
theorem dX9_digest_22 : decode cX9_digest 22 = .ok (.i2l, 1) := by decide +kernel
theorem dX9_digest_23 : decode cX9_digest 23 = .ok (.ladd, 1) := by decide +kernel
theorem dX9_digest_24 : decode cX9_digest 24 = .ok (.lstore_n 1, 1) := by decide +kernel
theorem dX9_digest_25 : decode cX9_digest 25 = .ok (.iinc 3 1, 3) := by decide +kernel
theorem dX9_digest_28 : decode cX9_digest 28 = .ok (.goto (-22), 3) := by decide +kernel
theorem dX9_digest_31 : decode cX9_digest 31 = .ok (.aload_n 0, 1) := by decide +kernel
theorem dX9_digest_32 : decode cX9_digest 32 = .ok (.getfield 32, 3) := by decide +kernel
theorem dX9_digest_35 : decode cX9_digest 35 = .ok (.lload_n 1, 1) := by decide +kernel
theorem dX9_digest_36 : decode cX9_digest 36 = .ok (.invokevirtual 261, 3) := by decide +kernel
theorem dX9_digest_39 : decode cX9_digest 39 = .ok (.lstore_n 1, 1) := by decide +kernel
theorem dX9_digest_40 : decode cX9_digest 40 = .ok (.ldc2_w 256, 3) := by decide +kernel
theorem dX9_digest_43 : decode cX9_digest 43 = .ok (.lload_n 1, 1) := by decide +kernel
theorem dX9_digest_44 : decode cX9_digest 44 = .ok (.lmul, 1) := by decide +kernel
theorem dX9_digest_45 : decode cX9_digest 45 = .ok (.aload_n 0, 1) := by decide +kernel
theorem dX9_digest_46 : decode cX9_digest 46 = .ok (.getfield 234, 3) := by decide +kernel
theorem dX9_digest_49 : decode cX9_digest 49 = .ok (.ladd, 1) := by decide +kernel
theorem dX9_digest_50 : decode cX9_digest 50 = .ok (.lstore_n 1, 1) := by decide +kernel
theorem dX9_digest_51 : decode cX9_digest 51 = .ok (.ldc2_w 256, 3) := by decide +kernel
theorem dX9_digest_54 : decode cX9_digest 54 = .ok (.lload_n 1, 1) := by decide +kernel
theorem dX9_digest_55 : decode cX9_digest 55 = .ok (.lmul, 1) := by decide +kernel
theorem dX9_digest_56 : decode cX9_digest 56 = .ok (.aload_n 0, 1) := by decide +kernel
theorem dX9_digest_57 : decode cX9_digest 57 = .ok (.getfield 61, 3) := by decide +kernel
theorem dX9_digest_60 : decode cX9_digest 60 = .ok (.ladd, 1) := by decide +kernel
theorem dX9_digest_61 : decode cX9_digest 61 = .ok (.lreturn, 1) := by decide +kernel
theorem dX9_bad_0 : decode cX9_bad 0 = .ok (.aload_n 0, 1) := by decide +kernel
theorem dX9_bad_1 : decode cX9_bad 1 = .ok (.dup, 1) := by decide +kernel
theorem dX9_bad_2 : decode cX9_bad 2 = .ok (.getfield 237, 3) := by decide +kernel
theorem dX9_bad_5 : decode cX9_bad 5 = .ok (.iconst 1, 1) := by decide +kernel
theorem dX9_bad_6 : decode cX9_bad 6 = .ok (.iadd, 1) := by decide +kernel
theorem dX9_bad_7 : decode cX9_bad 7 = .ok (.putfield 237, 3) := by decide +kernel
theorem dX9_bad_10 : decode cX9_bad 10 = .ok (.bipush (-2), 2) := by decide +kernel
theorem dX9_bad_12 : decode cX9_bad 12 = .ok (.ireturn, 1) := by decide +kernel
theorem dX9_otherBad_0 : decode cX9_otherBad 0 = .ok (.aload_n 0, 1) := by decide +kernel
theorem dX9_otherBad_1 : decode cX9_otherBad 1 = .ok (.dup, 1) := by decide +kernel
theorem dX9_otherBad_2 : decode cX9_otherBad 2 = .ok (.getfield 237, 3) := by decide +kernel
theorem dX9_otherBad_5 : decode cX9_otherBad 5 = .ok (.iconst 1, 1) := by decide +kernel
theorem dX9_otherBad_6 : decode cX9_otherBad 6 = .ok (.iadd, 1) := by decide +kernel
theorem dX9_otherBad_7 : decode cX9_otherBad 7 = .ok (.putfield 237, 3) := by decide +kernel
theorem dX9_otherBad_10 : decode cX9_otherBad 10 = .ok (.bipush (-10), 2) := by decide +kernel
theorem dX9_otherBad_12 : decode cX9_otherBad 12 = .ok (.ireturn, 1) := by decide +kernel
theorem dX9_no_0 : decode cX9_no 0 = .ok (.aload_n 0, 1) := by decide +kernel
theorem dX9_no_1 : decode cX9_no 1 = .ok (.dup, 1) := by decide +kernel
theorem dX9_no_2 : decode cX9_no 2 = .ok (.getfield 240, 3) := by decide +kernel
theorem dX9_no_5 : decode cX9_no 5 = .ok (.iconst 1, 1) := by decide +kernel
theorem dX9_no_6 : decode cX9_no 6 = .ok (.iadd, 1) := by decide +kernel
theorem dX9_no_7 : decode cX9_no 7 = .ok (.putfield 240, 3) := by decide +kernel
theorem dX9_no_10 : decode cX9_no 10 = .ok (.bipush (-3), 2) := by decide +kernel
theorem dX9_no_12 : decode cX9_no 12 = .ok (.ireturn, 1) := by decide +kernel
theorem dX9_full_0 : decode cX9_full 0 = .ok (.aload_n 0, 1) := by decide +kernel
theorem dX9_full_1 : decode cX9_full 1 = .ok (.dup, 1) := by decide +kernel
theorem dX9_full_2 : decode cX9_full 2 = .ok (.getfield 243, 3) := by decide +kernel
theorem dX9_full_5 : decode cX9_full 5 = .ok (.iconst 1, 1) := by decide +kernel
theorem dX9_full_6 : decode cX9_full 6 = .ok (.iadd, 1) := by decide +kernel
theorem dX9_full_7 : decode cX9_full 7 = .ok (.putfield 243, 3) := by decide +kernel
theorem dX9_full_10 : decode cX9_full 10 = .ok (.bipush (-4), 2) := by decide +kernel
theorem dX9_full_12 : decode cX9_full 12 = .ok (.ireturn, 1) := by decide +kernel
theorem dX9_isBoy_0 : decode cX9_isBoy 0 = .ok (.iload_n 1, 1) := by decide +kernel
theorem dX9_isBoy_1 : decode cX9_isBoy 1 = .ok (.aload_n 0, 1) := by decide +kernel
theorem dX9_isBoy_2 : decode cX9_isBoy 2 = .ok (.getfield 32, 3) := by decide +kernel
theorem dX9_isBoy_5 : decode cX9_isBoy 5 = .ok (.getfield 65, 3) := by decide +kernel
theorem dX9_isBoy_8 : decode cX9_isBoy 8 = .ok (.iconst 1, 1) := by decide +kernel
theorem dX9_isBoy_9 : decode cX9_isBoy 9 = .ok (.isub, 1) := by decide +kernel
theorem dX9_isBoy_10 : decode cX9_isBoy 10 = .ok (.invokestatic 72, 3) := by decide +kernel
theorem dX9_isBoy_13 : decode cX9_isBoy 13 = .ok (.ireturn, 1) := by decide +kernel
theorem dX9_isCell_0 : decode cX9_isCell 0 = .ok (.iload_n 0, 1) := by decide +kernel
theorem dX9_isCell_1 : decode cX9_isCell 1 = .ok (.bipush 11, 2) := by decide +kernel
theorem dX9_isCell_3 : decode cX9_isCell 3 = .ok (.invokestatic 72, 3) := by decide +kernel
theorem dX9_isCell_6 : decode cX9_isCell 6 = .ok (.ireturn, 1) := by decide +kernel
theorem dX9_within_0 : decode cX9_within 0 = .ok (.iload_n 0, 1) := by decide +kernel
theorem dX9_within_1 : decode cX9_within 1 = .ok (.ifCond .lt 12, 3) := by decide +kernel
theorem dX9_within_4 : decode cX9_within 4 = .ok (.iload_n 0, 1) := by decide +kernel
theorem dX9_within_5 : decode cX9_within 5 = .ok (.iload_n 1, 1) := by decide +kernel
theorem dX9_within_6 : decode cX9_within 6 = .ok (.if_icmp .gt 7, 3) := by decide +kernel
theorem dX9_within_9 : decode cX9_within 9 = .ok (.iconst 1, 1) := by decide +kernel
theorem dX9_within_10 : decode cX9_within 10 = .ok (.goto 4, 3) := by decide +kernel
theorem dX9_within_13 : decode cX9_within 13 = .ok (.iconst 0, 1) := by decide +kernel
theorem dX9_within_14 : decode cX9_within 14 = .ok (.ireturn, 1) := by decide +kernel
theorem dX9_has_0 : decode cX9_has 0 = .ok (.iload_n 1, 1) := by decide +kernel
theorem dX9_has_1 : decode cX9_has 1 = .ok (.ifCond .lt 16, 3) := by decide +kernel
theorem dX9_has_4 : decode cX9_has 4 = .ok (.iload_n 0, 1) := by decide +kernel
theorem dX9_has_5 : decode cX9_has 5 = .ok (.iload_n 1, 1) := by decide +kernel
theorem dX9_has_6 : decode cX9_has 6 = .ok (.ishr, 1) := by decide +kernel
theorem dX9_has_7 : decode cX9_has 7 = .ok (.iconst 1, 1) := by decide +kernel
theorem dX9_has_8 : decode cX9_has 8 = .ok (.iand, 1) := by decide +kernel
theorem dX9_has_9 : decode cX9_has 9 = .ok (.iconst 1, 1) := by decide +kernel
theorem dX9_has_10 : decode cX9_has 10 = .ok (.if_icmp .ne 7, 3) := by decide +kernel
theorem dX9_has_13 : decode cX9_has 13 = .ok (.iconst 1, 1) := by decide +kernel
theorem dX9_has_14 : decode cX9_has 14 = .ok (.goto 4, 3) := by decide +kernel
theorem dX9_has_17 : decode cX9_has 17 = .ok (.iconst 0, 1) := by decide +kernel
theorem dX9_has_18 : decode cX9_has 18 = .ok (.ireturn, 1) := by decide +kernel
theorem dX9_isMiddle_0 : decode cX9_isMiddle 0 = .ok (.iload_n 0, 1) := by decide +kernel
theorem dX9_isMiddle_1 : decode cX9_isMiddle 1 = .ok (.iconst 4, 1) := by decide +kernel
theorem dX9_isMiddle_2 : decode cX9_isMiddle 2 = .ok (.if_icmp .lt 13, 3) := by decide +kernel
theorem dX9_isMiddle_5 : decode cX9_isMiddle 5 = .ok (.iload_n 0, 1) := by decide +kernel
theorem dX9_isMiddle_6 : decode cX9_isMiddle 6 = .ok (.bipush 7, 2) := by decide +kernel
theorem dX9_isMiddle_8 : decode cX9_isMiddle 8 = .ok (.if_icmp .gt 7, 3) := by decide +kernel
theorem dX9_isMiddle_11 : decode cX9_isMiddle 11 = .ok (.iconst 1, 1) := by decide +kernel
theorem dX9_isMiddle_12 : decode cX9_isMiddle 12 = .ok (.goto 4, 3) := by decide +kernel
theorem dX9_isMiddle_15 : decode cX9_isMiddle 15 = .ok (.iconst 0, 1) := by decide +kernel
theorem dX9_isMiddle_16 : decode cX9_isMiddle 16 = .ok (.ireturn, 1) := by decide +kernel
theorem dX9_drawn_0 : decode cX9_drawn 0 = .ok (.lload_n 0, 1) := by decide +kernel
theorem dX9_drawn_1 : decode cX9_drawn 1 = .ok (.ldc2_w 264, 3) := by decide +kernel
theorem dX9_drawn_4 : decode cX9_drawn 4 = .ok (.lmul, 1) := by decide +kernel
theorem dX9_drawn_5 : decode cX9_drawn 5 = .ok (.ldc2_w 266, 3) := by decide +kernel
theorem dX9_drawn_8 : decode cX9_drawn 8 = .ok (.ladd, 1) := by decide +kernel
theorem dX9_drawn_9 : decode cX9_drawn 9 = .ok (.ldc2_w 268, 3) := by decide +kernel
theorem dX9_drawn_12 : decode cX9_drawn 12 = .ok (.lrem, 1) := by decide +kernel
theorem dX9_drawn_13 : decode cX9_drawn 13 = .ok (.lreturn, 1) := by decide +kernel
theorem dX9_cellBy_0 : decode cX9_cellBy 0 = .ok (.lload_n 0, 1) := by decide +kernel
theorem dX9_cellBy_1 : decode cX9_cellBy 1 = .ok (.ldc2_w 270, 3) := by decide +kernel
theorem dX9_cellBy_4 : decode cX9_cellBy 4 = .ok (.ldiv, 1) := by decide +kernel
theorem dX9_cellBy_5 : decode cX9_cellBy 5 = .ok (.ldc2_w 272, 3) := by decide +kernel
theorem dX9_cellBy_8 : decode cX9_cellBy 8 = .ok (.lrem, 1) := by decide +kernel
theorem dX9_cellBy_9 : decode cX9_cellBy 9 = .ok (.l2i, 1) := by decide +kernel
theorem dX9_cellBy_10 : decode cX9_cellBy 10 = .ok (.ireturn, 1) := by decide +kernel
theorem dX9_setFraction_0 : decode cX9_setFraction 0 = .ok (.iload_n 1, 1) := by decide +kernel
theorem dX9_setFraction_1 : decode cX9_setFraction 1 = .ok (.iload_n 2, 1) := by decide +kernel
theorem dX9_setFraction_2 : decode cX9_setFraction 2 = .ok (.invokestatic 274, 3) := by decide +kernel
theorem dX9_setFraction_5 : decode cX9_setFraction 5 = .ok (.istore_n 3, 1) := by decide +kernel
theorem dX9_setFraction_6 : decode cX9_setFraction 6 = .ok (.iload_n 3, 1) := by decide +kernel
theorem dX9_setFraction_7 : decode cX9_setFraction 7 = .ok (.iconst 1, 1) := by decide +kernel
theorem dX9_setFraction_8 : decode cX9_setFraction 8 = .ok (.if_icmp .ge 4, 3) := by decide +kernel
theorem dX9_setFraction_11 : decode cX9_setFraction 11 = .ok (.return_, 1) := by decide +kernel
theorem dX9_setFraction_12 : decode cX9_setFraction 12 = .ok (.aload_n 0, 1) := by decide +kernel
theorem dX9_setFraction_13 : decode cX9_setFraction 13 = .ok (.iload_n 1, 1) := by decide +kernel
theorem dX9_setFraction_14 : decode cX9_setFraction 14 = .ok (.iload_n 3, 1) := by decide +kernel
theorem dX9_setFraction_15 : decode cX9_setFraction 15 = .ok (.idiv, 1) := by decide +kernel
theorem dX9_setFraction_16 : decode cX9_setFraction 16 = .ok (.i2l, 1) := by decide +kernel
theorem dX9_setFraction_17 : decode cX9_setFraction 17 = .ok (.putfield 234, 3) := by decide +kernel
theorem dX9_setFraction_20 : decode cX9_setFraction 20 = .ok (.aload_n 0, 1) := by decide +kernel
theorem dX9_setFraction_21 : decode cX9_setFraction 21 = .ok (.iload_n 2, 1) := by decide +kernel
theorem dX9_setFraction_22 : decode cX9_setFraction 22 = .ok (.iload_n 3, 1) := by decide +kernel
theorem dX9_setFraction_23 : decode cX9_setFraction 23 = .ok (.idiv, 1) := by decide +kernel
theorem dX9_setFraction_24 : decode cX9_setFraction 24 = .ok (.i2l, 1) := by decide +kernel
theorem dX9_setFraction_25 : decode cX9_setFraction 25 = .ok (.putfield 61, 3) := by decide +kernel
theorem dX9_setFraction_28 : decode cX9_setFraction 28 = .ok (.return_, 1) := by decide +kernel
theorem dX9_commonDivisor_0 : decode cX9_commonDivisor 0 = .ok (.iload_n 1, 1) := by decide +kernel
theorem dX9_commonDivisor_1 : decode cX9_commonDivisor 1 = .ok (.istore_n 2, 1) := by decide +kernel
theorem dX9_commonDivisor_2 : decode cX9_commonDivisor 2 = .ok (.iload_n 2, 1) := by decide +kernel
theorem dX9_commonDivisor_3 : decode cX9_commonDivisor 3 = .ok (.iconst 1, 1) := by decide +kernel
theorem dX9_commonDivisor_4 : decode cX9_commonDivisor 4 = .ok (.if_icmp .le 23, 3) := by decide +kernel
theorem dX9_commonDivisor_7 : decode cX9_commonDivisor 7 = .ok (.iload_n 0, 1) := by decide +kernel
theorem dX9_commonDivisor_8 : decode cX9_commonDivisor 8 = .ok (.iload_n 2, 1) := by decide +kernel
theorem dX9_commonDivisor_9 : decode cX9_commonDivisor 9 = .ok (.irem, 1) := by decide +kernel
theorem dX9_commonDivisor_10 : decode cX9_commonDivisor 10 = .ok (.ifCond .ne 11, 3) := by decide +kernel
theorem dX9_commonDivisor_13 : decode cX9_commonDivisor 13 = .ok (.iload_n 1, 1) := by decide +kernel
theorem dX9_commonDivisor_14 : decode cX9_commonDivisor 14 = .ok (.iload_n 2, 1) := by decide +kernel
theorem dX9_commonDivisor_15 : decode cX9_commonDivisor 15 = .ok (.irem, 1) := by decide +kernel
theorem dX9_commonDivisor_16 : decode cX9_commonDivisor 16 = .ok (.ifCond .ne 5, 3) := by decide +kernel
theorem dX9_commonDivisor_19 : decode cX9_commonDivisor 19 = .ok (.iload_n 2, 1) := by decide +kernel
theorem dX9_commonDivisor_20 : decode cX9_commonDivisor 20 = .ok (.ireturn, 1) := by decide +kernel
theorem dX9_commonDivisor_21 : decode cX9_commonDivisor 21 = .ok (.iinc 2 (-1), 3) := by decide +kernel
theorem dX9_commonDivisor_24 : decode cX9_commonDivisor 24 = .ok (.goto (-22), 3) := by decide +kernel
theorem dX9_commonDivisor_27 : decode cX9_commonDivisor 27 = .ok (.iconst 1, 1) := by decide +kernel
theorem dX9_commonDivisor_28 : decode cX9_commonDivisor 28 = .ok (.ireturn, 1) := by decide +kernel
theorem dJ6_bitCount_0f7a4_0 : decode cJ6_bitCount_0f7a4 0 = .ok (.iload_n 0, 1) := by decide +kernel
theorem dJ6_bitCount_0f7a4_1 : decode cJ6_bitCount_0f7a4 1 = .ok (.iload_n 0, 1) := by decide +kernel
theorem dJ6_bitCount_0f7a4_2 : decode cJ6_bitCount_0f7a4 2 = .ok (.iconst 1, 1) := by decide +kernel
theorem dJ6_bitCount_0f7a4_3 : decode cJ6_bitCount_0f7a4 3 = .ok (.iushr, 1) := by decide +kernel
theorem dJ6_bitCount_0f7a4_4 : decode cJ6_bitCount_0f7a4 4 = .ok (.ldc_w 265, 3) := by decide +kernel
theorem dJ6_bitCount_0f7a4_7 : decode cJ6_bitCount_0f7a4 7 = .ok (.iand, 1) := by decide +kernel
theorem dJ6_bitCount_0f7a4_8 : decode cJ6_bitCount_0f7a4 8 = .ok (.isub, 1) := by decide +kernel
theorem dJ6_bitCount_0f7a4_9 : decode cJ6_bitCount_0f7a4 9 = .ok (.istore_n 0, 1) := by decide +kernel
theorem dJ6_bitCount_0f7a4_10 : decode cJ6_bitCount_0f7a4 10 = .ok (.iload_n 0, 1) := by decide +kernel
theorem dJ6_bitCount_0f7a4_11 : decode cJ6_bitCount_0f7a4 11 = .ok (.ldc_w 266, 3) := by decide +kernel
theorem dJ6_bitCount_0f7a4_14 : decode cJ6_bitCount_0f7a4 14 = .ok (.iand, 1) := by decide +kernel
theorem dJ6_bitCount_0f7a4_15 : decode cJ6_bitCount_0f7a4 15 = .ok (.iload_n 0, 1) := by decide +kernel
theorem dJ6_bitCount_0f7a4_16 : decode cJ6_bitCount_0f7a4 16 = .ok (.iconst 2, 1) := by decide +kernel
theorem dJ6_bitCount_0f7a4_17 : decode cJ6_bitCount_0f7a4 17 = .ok (.iushr, 1) := by decide +kernel
theorem dJ6_bitCount_0f7a4_18 : decode cJ6_bitCount_0f7a4 18 = .ok (.ldc_w 266, 3) := by decide +kernel
theorem dJ6_bitCount_0f7a4_21 : decode cJ6_bitCount_0f7a4 21 = .ok (.iand, 1) := by decide +kernel
theorem dJ6_bitCount_0f7a4_22 : decode cJ6_bitCount_0f7a4 22 = .ok (.iadd, 1) := by decide +kernel
theorem dJ6_bitCount_0f7a4_23 : decode cJ6_bitCount_0f7a4 23 = .ok (.istore_n 0, 1) := by decide +kernel
theorem dJ6_bitCount_0f7a4_24 : decode cJ6_bitCount_0f7a4 24 = .ok (.iload_n 0, 1) := by decide +kernel
theorem dJ6_bitCount_0f7a4_25 : decode cJ6_bitCount_0f7a4 25 = .ok (.iload_n 0, 1) := by decide +kernel
theorem dJ6_bitCount_0f7a4_26 : decode cJ6_bitCount_0f7a4 26 = .ok (.iconst 4, 1) := by decide +kernel
theorem dJ6_bitCount_0f7a4_27 : decode cJ6_bitCount_0f7a4 27 = .ok (.iushr, 1) := by decide +kernel
theorem dJ6_bitCount_0f7a4_28 : decode cJ6_bitCount_0f7a4 28 = .ok (.iadd, 1) := by decide +kernel
theorem dJ6_bitCount_0f7a4_29 : decode cJ6_bitCount_0f7a4 29 = .ok (.ldc_w 267, 3) := by decide +kernel
theorem dJ6_bitCount_0f7a4_32 : decode cJ6_bitCount_0f7a4 32 = .ok (.iand, 1) := by decide +kernel
theorem dJ6_bitCount_0f7a4_33 : decode cJ6_bitCount_0f7a4 33 = .ok (.istore_n 0, 1) := by decide +kernel
theorem dJ6_bitCount_0f7a4_34 : decode cJ6_bitCount_0f7a4 34 = .ok (.iload_n 0, 1) := by decide +kernel
theorem dJ6_bitCount_0f7a4_35 : decode cJ6_bitCount_0f7a4 35 = .ok (.iload_n 0, 1) := by decide +kernel
theorem dJ6_bitCount_0f7a4_36 : decode cJ6_bitCount_0f7a4 36 = .ok (.bipush 8, 2) := by decide +kernel
theorem dJ6_bitCount_0f7a4_38 : decode cJ6_bitCount_0f7a4 38 = .ok (.iushr, 1) := by decide +kernel
theorem dJ6_bitCount_0f7a4_39 : decode cJ6_bitCount_0f7a4 39 = .ok (.iadd, 1) := by decide +kernel
theorem dJ6_bitCount_0f7a4_40 : decode cJ6_bitCount_0f7a4 40 = .ok (.istore_n 0, 1) := by decide +kernel
theorem dJ6_bitCount_0f7a4_41 : decode cJ6_bitCount_0f7a4 41 = .ok (.iload_n 0, 1) := by decide +kernel
theorem dJ6_bitCount_0f7a4_42 : decode cJ6_bitCount_0f7a4 42 = .ok (.iload_n 0, 1) := by decide +kernel
theorem dJ6_bitCount_0f7a4_43 : decode cJ6_bitCount_0f7a4 43 = .ok (.bipush 16, 2) := by decide +kernel
theorem dJ6_bitCount_0f7a4_45 : decode cJ6_bitCount_0f7a4 45 = .ok (.iushr, 1) := by decide +kernel
theorem dJ6_bitCount_0f7a4_46 : decode cJ6_bitCount_0f7a4 46 = .ok (.iadd, 1) := by decide +kernel
theorem dJ6_bitCount_0f7a4_47 : decode cJ6_bitCount_0f7a4 47 = .ok (.istore_n 0, 1) := by decide +kernel
theorem dJ6_bitCount_0f7a4_48 : decode cJ6_bitCount_0f7a4 48 = .ok (.iload_n 0, 1) := by decide +kernel
theorem dJ6_bitCount_0f7a4_49 : decode cJ6_bitCount_0f7a4 49 = .ok (.bipush 63, 2) := by decide +kernel
theorem dJ6_bitCount_0f7a4_51 : decode cJ6_bitCount_0f7a4 51 = .ok (.iand, 1) := by decide +kernel
theorem dJ6_bitCount_0f7a4_52 : decode cJ6_bitCount_0f7a4 52 = .ok (.ireturn, 1) := by decide +kernel
theorem dJ9_max_7cf53_0 : decode cJ9_max_7cf53 0 = .ok (.iload_n 0, 1) := by decide +kernel
theorem dJ9_max_7cf53_1 : decode cJ9_max_7cf53 1 = .ok (.iload_n 1, 1) := by decide +kernel
theorem dJ9_max_7cf53_2 : decode cJ9_max_7cf53 2 = .ok (.if_icmp .lt 7, 3) := by decide +kernel
theorem dJ9_max_7cf53_5 : decode cJ9_max_7cf53 5 = .ok (.iload_n 0, 1) := by decide +kernel
theorem dJ9_max_7cf53_6 : decode cJ9_max_7cf53 6 = .ok (.goto 4, 3) := by decide +kernel
theorem dJ9_max_7cf53_9 : decode cJ9_max_7cf53 9 = .ok (.iload_n 1, 1) := by decide +kernel
theorem dJ9_max_7cf53_10 : decode cJ9_max_7cf53 10 = .ok (.ireturn, 1) := by decide +kernel
theorem dJ0_length_8abf5_0 : decode cJ0_length_8abf5 0 = .ok (.aload_n 0, 1) := by decide +kernel
theorem dJ0_length_8abf5_1 : decode cJ0_length_8abf5 1 = .ok (.getfield 9, 3) := by decide +kernel
theorem dJ0_length_8abf5_4 : decode cJ0_length_8abf5 4 = .ok (.arraylength, 1) := by decide +kernel
theorem dJ0_length_8abf5_5 : decode cJ0_length_8abf5 5 = .ok (.aload_n 0, 1) := by decide +kernel
theorem dJ0_length_8abf5_6 : decode cJ0_length_8abf5 6 = .ok (.invokevirtual 335, 3) := by decide +kernel
theorem dJ0_length_8abf5_9 : decode cJ0_length_8abf5 9 = .ok (.ishr, 1) := by decide +kernel
theorem dJ0_length_8abf5_10 : decode cJ0_length_8abf5 10 = .ok (.ireturn, 1) := by decide +kernel
theorem dJ0_charAt_5068e_0 : decode cJ0_charAt_5068e 0 = .ok (.aload_n 0, 1) := by decide +kernel
theorem dJ0_charAt_5068e_1 : decode cJ0_charAt_5068e 1 = .ok (.invokevirtual 492, 3) := by decide +kernel
theorem dJ0_charAt_5068e_4 : decode cJ0_charAt_5068e 4 = .ok (.ifCond .eq 12, 3) := by decide +kernel
theorem dJ0_charAt_5068e_7 : decode cJ0_charAt_5068e 7 = .ok (.aload_n 0, 1) := by decide +kernel
theorem dJ0_charAt_5068e_8 : decode cJ0_charAt_5068e 8 = .ok (.getfield 9, 3) := by decide +kernel
theorem dJ0_charAt_5068e_11 : decode cJ0_charAt_5068e 11 = .ok (.iload_n 1, 1) := by decide +kernel
theorem dJ0_charAt_5068e_12 : decode cJ0_charAt_5068e 12 = .ok (.invokestatic 495, 3) := by decide +kernel
theorem dJ0_charAt_5068e_15 : decode cJ0_charAt_5068e 15 = .ok (.ireturn, 1) := by decide +kernel
theorem dJ0_charAt_5068e_16 : decode cJ0_charAt_5068e 16 = .ok (.aload_n 0, 1) := by decide +kernel
theorem dJ0_charAt_5068e_17 : decode cJ0_charAt_5068e 17 = .ok (.getfield 9, 3) := by decide +kernel
theorem dJ0_charAt_5068e_20 : decode cJ0_charAt_5068e 20 = .ok (.iload_n 1, 1) := by decide +kernel
theorem dJ0_charAt_5068e_21 : decode cJ0_charAt_5068e 21 = .ok (.invokestatic 498, 3) := by decide +kernel
theorem dJ0_charAt_5068e_24 : decode cJ0_charAt_5068e 24 = .ok (.ireturn, 1) := by decide +kernel
theorem dJ0_coder_7d493_0 : decode cJ0_coder_7d493 0 = .ok (.getstatic 38, 3) := by decide +kernel
theorem dJ0_coder_7d493_3 : decode cJ0_coder_7d493 3 = .ok (.ifCond .eq 10, 3) := by decide +kernel
theorem dJ0_coder_7d493_6 : decode cJ0_coder_7d493 6 = .ok (.aload_n 0, 1) := by decide +kernel
theorem dJ0_coder_7d493_7 : decode cJ0_coder_7d493 7 = .ok (.getfield 15, 3) := by decide +kernel
theorem dJ0_coder_7d493_10 : decode cJ0_coder_7d493 10 = .ok (.goto 4, 3) := by decide +kernel
theorem dJ0_coder_7d493_13 : decode cJ0_coder_7d493 13 = .ok (.iconst 1, 1) := by decide +kernel
theorem dJ0_coder_7d493_14 : decode cJ0_coder_7d493 14 = .ok (.ireturn, 1) := by decide +kernel
theorem dJ0_isLatin1_aae02_0 : decode cJ0_isLatin1_aae02 0 = .ok (.getstatic 38, 3) := by decide +kernel
theorem dJ0_isLatin1_aae02_3 : decode cJ0_isLatin1_aae02 3 = .ok (.ifCond .eq 14, 3) := by decide +kernel
theorem dJ0_isLatin1_aae02_6 : decode cJ0_isLatin1_aae02 6 = .ok (.aload_n 0, 1) := by decide +kernel
theorem dJ0_isLatin1_aae02_7 : decode cJ0_isLatin1_aae02 7 = .ok (.getfield 15, 3) := by decide +kernel
theorem dJ0_isLatin1_aae02_10 : decode cJ0_isLatin1_aae02 10 = .ok (.ifCond .ne 7, 3) := by decide +kernel
theorem dJ0_isLatin1_aae02_13 : decode cJ0_isLatin1_aae02 13 = .ok (.iconst 1, 1) := by decide +kernel
theorem dJ0_isLatin1_aae02_14 : decode cJ0_isLatin1_aae02 14 = .ok (.goto 4, 3) := by decide +kernel
theorem dJ0_isLatin1_aae02_17 : decode cJ0_isLatin1_aae02 17 = .ok (.iconst 0, 1) := by decide +kernel
theorem dJ0_isLatin1_aae02_18 : decode cJ0_isLatin1_aae02 18 = .ok (.ireturn, 1) := by decide +kernel
theorem dJ0_checkIndex_df160_0 : decode cJ0_checkIndex_df160 0 = .ok (.iload_n 0, 1) := by decide +kernel
theorem dJ0_checkIndex_df160_1 : decode cJ0_checkIndex_df160 1 = .ok (.iload_n 1, 1) := by decide +kernel
theorem dJ0_checkIndex_df160_2 : decode cJ0_checkIndex_df160 2 = .ok (.getstatic 1053, 3) := by decide +kernel
theorem dJ0_checkIndex_df160_5 : decode cJ0_checkIndex_df160 5 = .ok (.invokestatic 1059, 3) := by decide +kernel
theorem dJ0_checkIndex_df160_8 : decode cJ0_checkIndex_df160 8 = .ok (.pop, 1) := by decide +kernel
theorem dJ0_checkIndex_df160_9 : decode cJ0_checkIndex_df160 9 = .ok (.return_, 1) := by decide +kernel
theorem dJ1_charAt_3b067_0 : decode cJ1_charAt_3b067 0 = .ok (.iload_n 1, 1) := by decide +kernel
theorem dJ1_charAt_3b067_1 : decode cJ1_charAt_3b067 1 = .ok (.aload_n 0, 1) := by decide +kernel
theorem dJ1_charAt_3b067_2 : decode cJ1_charAt_3b067 2 = .ok (.arraylength, 1) := by decide +kernel
theorem dJ1_charAt_3b067_3 : decode cJ1_charAt_3b067 3 = .ok (.invokestatic 9, 3) := by decide +kernel
theorem dJ1_charAt_3b067_6 : decode cJ1_charAt_3b067 6 = .ok (.aload_n 0, 1) := by decide +kernel
theorem dJ1_charAt_3b067_7 : decode cJ1_charAt_3b067 7 = .ok (.iload_n 1, 1) := by decide +kernel
theorem dJ1_charAt_3b067_8 : decode cJ1_charAt_3b067 8 = .ok (.baload, 1) := by decide +kernel
theorem dJ1_charAt_3b067_9 : decode cJ1_charAt_3b067 9 = .ok (.sipush 255, 3) := by decide +kernel
theorem dJ1_charAt_3b067_12 : decode cJ1_charAt_3b067 12 = .ok (.iand, 1) := by decide +kernel
theorem dJ1_charAt_3b067_13 : decode cJ1_charAt_3b067 13 = .ok (.i2c, 1) := by decide +kernel
theorem dJ1_charAt_3b067_14 : decode cJ1_charAt_3b067 14 = .ok (.ireturn, 1) := by decide +kernel
theorem dJ2_getChar_3b067_0 : decode cJ2_getChar_3b067 0 = .ok (.getstatic 44, 3) := by decide +kernel
theorem dJ2_getChar_3b067_3 : decode cJ2_getChar_3b067 3 = .ok (.ifCond .ne 25, 3) := by decide +kernel
theorem dJ2_getChar_3b067_6 : decode cJ2_getChar_3b067 6 = .ok (.iload_n 1, 1) := by decide +kernel
theorem dJ2_getChar_3b067_7 : decode cJ2_getChar_3b067 7 = .ok (.ifCond .lt 11, 3) := by decide +kernel
theorem dJ2_getChar_3b067_10 : decode cJ2_getChar_3b067 10 = .ok (.iload_n 1, 1) := by decide +kernel
theorem dJ2_getChar_3b067_11 : decode cJ2_getChar_3b067 11 = .ok (.aload_n 0, 1) := by decide +kernel
theorem dJ2_getChar_3b067_12 : decode cJ2_getChar_3b067 12 = .ok (.invokestatic 48, 3) := by decide +kernel
theorem dJ2_getChar_3b067_15 : decode cJ2_getChar_3b067 15 = .ok (.if_icmp .lt 13, 3) := by decide +kernel
theorem dJ2_getChar_3b067_18 : decode cJ2_getChar_3b067 18 = .ok (.new 52, 3) := by decide +kernel
theorem dJ2_getChar_3b067_21 : decode cJ2_getChar_3b067 21 = .ok (.dup, 1) := by decide +kernel
theorem dJ2_getChar_3b067_22 : decode cJ2_getChar_3b067 22 = .ok (.ldc 54, 2) := by decide +kernel
theorem dJ2_getChar_3b067_24 : decode cJ2_getChar_3b067 24 = .ok (.invokespecial 56, 3) := by decide +kernel
theorem dJ2_getChar_3b067_27 : decode cJ2_getChar_3b067 27 = .ok (.athrow, 1) := by decide +kernel
theorem dJ2_getChar_3b067_28 : decode cJ2_getChar_3b067 28 = .ok (.iload_n 1, 1) := by decide +kernel
theorem dJ2_getChar_3b067_29 : decode cJ2_getChar_3b067 29 = .ok (.iconst 1, 1) := by decide +kernel
theorem dJ2_getChar_3b067_30 : decode cJ2_getChar_3b067 30 = .ok (.ishl, 1) := by decide +kernel
theorem dJ2_getChar_3b067_31 : decode cJ2_getChar_3b067 31 = .ok (.istore_n 1, 1) := by decide +kernel
theorem dJ2_getChar_3b067_32 : decode cJ2_getChar_3b067 32 = .ok (.aload_n 0, 1) := by decide +kernel
theorem dJ2_getChar_3b067_33 : decode cJ2_getChar_3b067 33 = .ok (.iload_n 1, 1) := by decide +kernel
theorem dJ2_getChar_3b067_34 : decode cJ2_getChar_3b067 34 = .ok (.iinc 1 1, 3) := by decide +kernel
theorem dJ2_getChar_3b067_37 : decode cJ2_getChar_3b067 37 = .ok (.baload, 1) := by decide +kernel
theorem dJ2_getChar_3b067_38 : decode cJ2_getChar_3b067 38 = .ok (.sipush 255, 3) := by decide +kernel
theorem dJ2_getChar_3b067_41 : decode cJ2_getChar_3b067 41 = .ok (.iand, 1) := by decide +kernel
theorem dJ2_getChar_3b067_42 : decode cJ2_getChar_3b067 42 = .ok (.getstatic 59, 3) := by decide +kernel
theorem dJ2_getChar_3b067_45 : decode cJ2_getChar_3b067 45 = .ok (.ishl, 1) := by decide +kernel
theorem dJ2_getChar_3b067_46 : decode cJ2_getChar_3b067 46 = .ok (.aload_n 0, 1) := by decide +kernel
theorem dJ2_getChar_3b067_47 : decode cJ2_getChar_3b067 47 = .ok (.iload_n 1, 1) := by decide +kernel
theorem dJ2_getChar_3b067_48 : decode cJ2_getChar_3b067 48 = .ok (.baload, 1) := by decide +kernel
theorem dJ2_getChar_3b067_49 : decode cJ2_getChar_3b067 49 = .ok (.sipush 255, 3) := by decide +kernel
theorem dJ2_getChar_3b067_52 : decode cJ2_getChar_3b067 52 = .ok (.iand, 1) := by decide +kernel
theorem dJ2_getChar_3b067_53 : decode cJ2_getChar_3b067 53 = .ok (.getstatic 63, 3) := by decide +kernel
theorem dJ2_getChar_3b067_56 : decode cJ2_getChar_3b067 56 = .ok (.ishl, 1) := by decide +kernel
theorem dJ2_getChar_3b067_57 : decode cJ2_getChar_3b067 57 = .ok (.ior, 1) := by decide +kernel
theorem dJ2_getChar_3b067_58 : decode cJ2_getChar_3b067 58 = .ok (.i2c, 1) := by decide +kernel
theorem dJ2_getChar_3b067_59 : decode cJ2_getChar_3b067 59 = .ok (.ireturn, 1) := by decide +kernel
theorem dJ2_length_9d52b_0 : decode cJ2_length_9d52b 0 = .ok (.aload_n 0, 1) := by decide +kernel
theorem dJ2_length_9d52b_1 : decode cJ2_length_9d52b 1 = .ok (.arraylength, 1) := by decide +kernel
theorem dJ2_length_9d52b_2 : decode cJ2_length_9d52b 2 = .ok (.iconst 1, 1) := by decide +kernel
theorem dJ2_length_9d52b_3 : decode cJ2_length_9d52b 3 = .ok (.ishr, 1) := by decide +kernel
theorem dJ2_length_9d52b_4 : decode cJ2_length_9d52b 4 = .ok (.ireturn, 1) := by decide +kernel
theorem dJ2_charAt_3b067_0 : decode cJ2_charAt_3b067 0 = .ok (.iload_n 1, 1) := by decide +kernel
theorem dJ2_charAt_3b067_1 : decode cJ2_charAt_3b067 1 = .ok (.aload_n 0, 1) := by decide +kernel
theorem dJ2_charAt_3b067_2 : decode cJ2_charAt_3b067 2 = .ok (.invokestatic 67, 3) := by decide +kernel
theorem dJ2_charAt_3b067_5 : decode cJ2_charAt_3b067 5 = .ok (.aload_n 0, 1) := by decide +kernel
theorem dJ2_charAt_3b067_6 : decode cJ2_charAt_3b067 6 = .ok (.iload_n 1, 1) := by decide +kernel
theorem dJ2_charAt_3b067_7 : decode cJ2_charAt_3b067 7 = .ok (.invokestatic 71, 3) := by decide +kernel
theorem dJ2_charAt_3b067_10 : decode cJ2_charAt_3b067 10 = .ok (.ireturn, 1) := by decide +kernel
theorem dJ2_checkIndex_2214a_0 : decode cJ2_checkIndex_2214a 0 = .ok (.iload_n 0, 1) := by decide +kernel
theorem dJ2_checkIndex_2214a_1 : decode cJ2_checkIndex_2214a 1 = .ok (.aload_n 1, 1) := by decide +kernel
theorem dJ2_checkIndex_2214a_2 : decode cJ2_checkIndex_2214a 2 = .ok (.invokestatic 48, 3) := by decide +kernel
theorem dJ2_checkIndex_2214a_5 : decode cJ2_checkIndex_2214a 5 = .ok (.invokestatic 414, 3) := by decide +kernel
theorem dJ2_checkIndex_2214a_8 : decode cJ2_checkIndex_2214a 8 = .ok (.return_, 1) := by decide +kernel
theorem dJ7_fill_53178_0 : decode cJ7_fill_53178 0 = .ok (.iconst 0, 1) := by decide +kernel
theorem dJ7_fill_53178_1 : decode cJ7_fill_53178 1 = .ok (.istore_n 2, 1) := by decide +kernel
theorem dJ7_fill_53178_2 : decode cJ7_fill_53178 2 = .ok (.aload_n 0, 1) := by decide +kernel
theorem dJ7_fill_53178_3 : decode cJ7_fill_53178 3 = .ok (.arraylength, 1) := by decide +kernel
theorem dJ7_fill_53178_4 : decode cJ7_fill_53178 4 = .ok (.istore_n 3, 1) := by decide +kernel
theorem dJ7_fill_53178_5 : decode cJ7_fill_53178 5 = .ok (.iload_n 2, 1) := by decide +kernel
theorem dJ7_fill_53178_6 : decode cJ7_fill_53178 6 = .ok (.iload_n 3, 1) := by decide +kernel
theorem dJ7_fill_53178_7 : decode cJ7_fill_53178 7 = .ok (.if_icmp .ge 13, 3) := by decide +kernel
theorem dJ7_fill_53178_10 : decode cJ7_fill_53178 10 = .ok (.aload_n 0, 1) := by decide +kernel
theorem dJ7_fill_53178_11 : decode cJ7_fill_53178 11 = .ok (.iload_n 2, 1) := by decide +kernel
theorem dJ7_fill_53178_12 : decode cJ7_fill_53178 12 = .ok (.iload_n 1, 1) := by decide +kernel
theorem dJ7_fill_53178_13 : decode cJ7_fill_53178 13 = .ok (.iastore, 1) := by decide +kernel
theorem dJ7_fill_53178_14 : decode cJ7_fill_53178 14 = .ok (.iinc 2 1, 3) := by decide +kernel
theorem dJ7_fill_53178_17 : decode cJ7_fill_53178 17 = .ok (.goto (-12), 3) := by decide +kernel
theorem dJ7_fill_53178_20 : decode cJ7_fill_53178 20 = .ok (.return_, 1) := by decide +kernel
theorem dJ3_checkIndex_8e157_0 : decode cJ3_checkIndex_8e157 0 = .ok (.iload_n 0, 1) := by decide +kernel
theorem dJ3_checkIndex_8e157_1 : decode cJ3_checkIndex_8e157 1 = .ok (.ifCond .lt 8, 3) := by decide +kernel
theorem dJ3_checkIndex_8e157_4 : decode cJ3_checkIndex_8e157 4 = .ok (.iload_n 0, 1) := by decide +kernel
theorem dJ3_checkIndex_8e157_5 : decode cJ3_checkIndex_8e157 5 = .ok (.iload_n 1, 1) := by decide +kernel
theorem dJ3_checkIndex_8e157_6 : decode cJ3_checkIndex_8e157 6 = .ok (.if_icmp .lt 10, 3) := by decide +kernel
theorem dJ3_checkIndex_8e157_9 : decode cJ3_checkIndex_8e157 9 = .ok (.aload_n 2, 1) := by decide +kernel
theorem dJ3_checkIndex_8e157_10 : decode cJ3_checkIndex_8e157 10 = .ok (.iload_n 0, 1) := by decide +kernel
theorem dJ3_checkIndex_8e157_11 : decode cJ3_checkIndex_8e157 11 = .ok (.iload_n 1, 1) := by decide +kernel
theorem dJ3_checkIndex_8e157_12 : decode cJ3_checkIndex_8e157 12 = .ok (.invokestatic 95, 3) := by decide +kernel
theorem dJ3_checkIndex_8e157_15 : decode cJ3_checkIndex_8e157 15 = .ok (.athrow, 1) := by decide +kernel
theorem dJ3_checkIndex_8e157_16 : decode cJ3_checkIndex_8e157 16 = .ok (.iload_n 0, 1) := by decide +kernel
theorem dJ3_checkIndex_8e157_17 : decode cJ3_checkIndex_8e157 17 = .ok (.ireturn, 1) := by decide +kernel

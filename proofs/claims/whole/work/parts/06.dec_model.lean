theorem dX8_init_0 : decode cX8_init 0 = .ok (.aload_n 0, 1) := by decide +kernel
theorem dX8_init_1 : decode cX8_init 1 = .ok (.invokespecial 1, 3) := by decide +kernel
theorem dX8_init_4 : decode cX8_init 4 = .ok (.aload_n 0, 1) := by decide +kernel
theorem dX8_init_5 : decode cX8_init 5 = .ok (.bipush 64, 2) := by decide +kernel
theorem dX8_init_7 : decode cX8_init 7 = .ok (.newarray .int, 2) := by decide +kernel
theorem dX8_init_9 : decode cX8_init 9 = .ok (.putfield 7, 3) := by decide +kernel
theorem dX8_init_12 : decode cX8_init 12 = .ok (.aload_n 0, 1) := by decide +kernel
theorem dX8_init_13 : decode cX8_init 13 = .ok (.bipush 64, 2) := by decide +kernel
theorem dX8_init_15 : decode cX8_init 15 = .ok (.newarray .int, 2) := by decide +kernel
theorem dX8_init_17 : decode cX8_init 17 = .ok (.putfield 13, 3) := by decide +kernel
theorem dX8_init_20 : decode cX8_init 20 = .ok (.aload_n 0, 1) := by decide +kernel
theorem dX8_init_21 : decode cX8_init 21 = .ok (.bipush 64, 2) := by decide +kernel
theorem dX8_init_23 : decode cX8_init 23 = .ok (.newarray .boolean, 2) := by decide +kernel
theorem dX8_init_25 : decode cX8_init 25 = .ok (.putfield 16, 3) := by decide +kernel
theorem dX8_init_28 : decode cX8_init 28 = .ok (.aload_n 0, 1) := by decide +kernel
theorem dX8_init_29 : decode cX8_init 29 = .ok (.bipush 64, 2) := by decide +kernel
theorem dX8_init_31 : decode cX8_init 31 = .ok (.newarray .boolean, 2) := by decide +kernel
theorem dX8_init_33 : decode cX8_init 33 = .ok (.putfield 20, 3) := by decide +kernel
theorem dX8_init_36 : decode cX8_init 36 = .ok (.aload_n 0, 1) := by decide +kernel
theorem dX8_init_37 : decode cX8_init 37 = .ok (.iconst 4, 1) := by decide +kernel
theorem dX8_init_38 : decode cX8_init 38 = .ok (.newarray .int, 2) := by decide +kernel
theorem dX8_init_40 : decode cX8_init 40 = .ok (.putfield 23, 3) := by decide +kernel
theorem dX8_init_43 : decode cX8_init 43 = .ok (.aload_n 0, 1) := by decide +kernel
theorem dX8_init_44 : decode cX8_init 44 = .ok (.iconst 4, 1) := by decide +kernel
theorem dX8_init_45 : decode cX8_init 45 = .ok (.newarray .int, 2) := by decide +kernel
theorem dX8_init_47 : decode cX8_init 47 = .ok (.putfield 26, 3) := by decide +kernel
theorem dX8_init_50 : decode cX8_init 50 = .ok (.aload_n 0, 1) := by decide +kernel
theorem dX8_init_51 : decode cX8_init 51 = .ok (.bipush 12, 2) := by decide +kernel
theorem dX8_init_53 : decode cX8_init 53 = .ok (.newarray .int, 2) := by decide +kernel
theorem dX8_init_55 : decode cX8_init 55 = .ok (.putfield 29, 3) := by decide +kernel
theorem dX8_init_58 : decode cX8_init 58 = .ok (.aload_n 0, 1) := by decide +kernel
theorem dX8_init_59 : decode cX8_init 59 = .ok (.bipush 12, 2) := by decide +kernel
theorem dX8_init_61 : decode cX8_init 61 = .ok (.newarray .int, 2) := by decide +kernel
theorem dX8_init_63 : decode cX8_init 63 = .ok (.putfield 32, 3) := by decide +kernel
theorem dX8_init_66 : decode cX8_init 66 = .ok (.aload_n 0, 1) := by decide +kernel
theorem dX8_init_67 : decode cX8_init 67 = .ok (.bipush 12, 2) := by decide +kernel
theorem dX8_init_69 : decode cX8_init 69 = .ok (.newarray .int, 2) := by decide +kernel
theorem dX8_init_71 : decode cX8_init 71 = .ok (.putfield 35, 3) := by decide +kernel
theorem dX8_init_74 : decode cX8_init 74 = .ok (.aload_n 0, 1) := by decide +kernel
theorem dX8_init_75 : decode cX8_init 75 = .ok (.bipush 12, 2) := by decide +kernel
theorem dX8_init_77 : decode cX8_init 77 = .ok (.newarray .boolean, 2) := by decide +kernel
theorem dX8_init_79 : decode cX8_init 79 = .ok (.putfield 38, 3) := by decide +kernel
theorem dX8_init_82 : decode cX8_init 82 = .ok (.aload_n 0, 1) := by decide +kernel
theorem dX8_init_83 : decode cX8_init 83 = .ok (.sipush 1000, 3) := by decide +kernel
theorem dX8_init_86 : decode cX8_init 86 = .ok (.putfield 41, 3) := by decide +kernel
theorem dX8_init_89 : decode cX8_init 89 = .ok (.aload_n 0, 1) := by decide +kernel
theorem dX8_init_90 : decode cX8_init 90 = .ok (.sipush 300, 3) := by decide +kernel
theorem dX8_init_93 : decode cX8_init 93 = .ok (.putfield 45, 3) := by decide +kernel
theorem dX8_init_96 : decode cX8_init 96 = .ok (.aload_n 0, 1) := by decide +kernel
theorem dX8_init_97 : decode cX8_init 97 = .ok (.sipush 300, 3) := by decide +kernel
theorem dX8_init_100 : decode cX8_init 100 = .ok (.putfield 48, 3) := by decide +kernel
theorem dX8_init_103 : decode cX8_init 103 = .ok (.aload_n 0, 1) := by decide +kernel
theorem dX8_init_104 : decode cX8_init 104 = .ok (.bipush 100, 2) := by decide +kernel
theorem dX8_init_106 : decode cX8_init 106 = .ok (.putfield 51, 3) := by decide +kernel
theorem dX8_init_109 : decode cX8_init 109 = .ok (.aload_n 0, 1) := by decide +kernel
theorem dX8_init_110 : decode cX8_init 110 = .ok (.iconst 5, 1) := by decide +kernel
theorem dX8_init_111 : decode cX8_init 111 = .ok (.newarray .int, 2) := by decide +kernel
theorem dX8_init_113 : decode cX8_init 113 = .ok (.putfield 54, 3) := by decide +kernel
theorem dX8_init_116 : decode cX8_init 116 = .ok (.aload_n 0, 1) := by decide +kernel
theorem dX8_init_117 : decode cX8_init 117 = .ok (.iconst 5, 1) := by decide +kernel
theorem dX8_init_118 : decode cX8_init 118 = .ok (.newarray .int, 2) := by decide +kernel
theorem dX8_init_120 : decode cX8_init 120 = .ok (.putfield 57, 3) := by decide +kernel
theorem dX8_init_123 : decode cX8_init 123 = .ok (.aload_n 0, 1) := by decide +kernel
theorem dX8_init_124 : decode cX8_init 124 = .ok (.iconst 5, 1) := by decide +kernel
theorem dX8_init_125 : decode cX8_init 125 = .ok (.newarray .int, 2) := by decide +kernel
theorem dX8_init_127 : decode cX8_init 127 = .ok (.putfield 60, 3) := by decide +kernel
theorem dX8_init_130 : decode cX8_init 130 = .ok (.aload_n 0, 1) := by decide +kernel
theorem dX8_init_131 : decode cX8_init 131 = .ok (.bipush 8, 2) := by decide +kernel
theorem dX8_init_133 : decode cX8_init 133 = .ok (.newarray .int, 2) := by decide +kernel
theorem dX8_init_135 : decode cX8_init 135 = .ok (.putfield 63, 3) := by decide +kernel
theorem dX8_init_138 : decode cX8_init 138 = .ok (.return_, 1) := by decide +kernel
theorem dX8_in_0 : decode cX8_in 0 = .ok (.iload_n 0, 1) := by decide +kernel
theorem dX8_in_1 : decode cX8_in 1 = .ok (.iload_n 1, 1) := by decide +kernel
theorem dX8_in_2 : decode cX8_in 2 = .ok (.if_icmp .lt 12, 3) := by decide +kernel
theorem dX8_in_5 : decode cX8_in 5 = .ok (.iload_n 0, 1) := by decide +kernel
theorem dX8_in_6 : decode cX8_in 6 = .ok (.iload_n 2, 1) := by decide +kernel
theorem dX8_in_7 : decode cX8_in 7 = .ok (.if_icmp .gt 7, 3) := by decide +kernel
theorem dX8_in_10 : decode cX8_in 10 = .ok (.iconst 1, 1) := by decide +kernel
theorem dX8_in_11 : decode cX8_in 11 = .ok (.goto 4, 3) := by decide +kernel
theorem dX8_in_14 : decode cX8_in 14 = .ok (.iconst 0, 1) := by decide +kernel
theorem dX8_in_15 : decode cX8_in 15 = .ok (.ireturn, 1) := by decide +kernel
theorem dX8_isCell_0 : decode cX8_isCell 0 = .ok (.iload_n 0, 1) := by decide +kernel
theorem dX8_isCell_1 : decode cX8_isCell 1 = .ok (.iconst 0, 1) := by decide +kernel
theorem dX8_isCell_2 : decode cX8_isCell 2 = .ok (.bipush 7, 2) := by decide +kernel
theorem dX8_isCell_4 : decode cX8_isCell 4 = .ok (.invokestatic 66, 3) := by decide +kernel
theorem dX8_isCell_7 : decode cX8_isCell 7 = .ok (.ifCond .eq 17, 3) := by decide +kernel
theorem dX8_isCell_10 : decode cX8_isCell 10 = .ok (.iload_n 1, 1) := by decide +kernel
theorem dX8_isCell_11 : decode cX8_isCell 11 = .ok (.iconst 0, 1) := by decide +kernel
theorem dX8_isCell_12 : decode cX8_isCell 12 = .ok (.bipush 7, 2) := by decide +kernel
theorem dX8_isCell_14 : decode cX8_isCell 14 = .ok (.invokestatic 66, 3) := by decide +kernel
theorem dX8_isCell_17 : decode cX8_isCell 17 = .ok (.ifCond .eq 7, 3) := by decide +kernel
theorem dX8_isCell_20 : decode cX8_isCell 20 = .ok (.iconst 1, 1) := by decide +kernel
theorem dX8_isCell_21 : decode cX8_isCell 21 = .ok (.goto 4, 3) := by decide +kernel
theorem dX8_isCell_24 : decode cX8_isCell 24 = .ok (.iconst 0, 1) := by decide +kernel
theorem dX8_isCell_25 : decode cX8_isCell 25 = .ok (.ireturn, 1) := by decide +kernel
theorem dX8_isDesk_0 : decode cX8_isDesk 0 = .ok (.iload_n 1, 1) := by decide +kernel
theorem dX8_isDesk_1 : decode cX8_isDesk 1 = .ok (.iconst 0, 1) := by decide +kernel
theorem dX8_isDesk_2 : decode cX8_isDesk 2 = .ok (.aload_n 0, 1) := by decide +kernel
theorem dX8_isDesk_3 : decode cX8_isDesk 3 = .ok (.getfield 70, 3) := by decide +kernel
theorem dX8_isDesk_6 : decode cX8_isDesk 6 = .ok (.iconst 1, 1) := by decide +kernel
theorem dX8_isDesk_7 : decode cX8_isDesk 7 = .ok (.isub, 1) := by decide +kernel
theorem dX8_isDesk_8 : decode cX8_isDesk 8 = .ok (.invokestatic 66, 3) := by decide +kernel
theorem dX8_isDesk_11 : decode cX8_isDesk 11 = .ok (.ireturn, 1) := by decide +kernel
theorem dX8_isHour_0 : decode cX8_isHour 0 = .ok (.iload_n 0, 1) := by decide +kernel
theorem dX8_isHour_1 : decode cX8_isHour 1 = .ok (.iconst 0, 1) := by decide +kernel
theorem dX8_isHour_2 : decode cX8_isHour 2 = .ok (.bipush 11, 2) := by decide +kernel
theorem dX8_isHour_4 : decode cX8_isHour 4 = .ok (.invokestatic 66, 3) := by decide +kernel
theorem dX8_isHour_7 : decode cX8_isHour 7 = .ok (.ireturn, 1) := by decide +kernel
theorem dX8_cell_0 : decode cX8_cell 0 = .ok (.iload_n 1, 1) := by decide +kernel
theorem dX8_cell_1 : decode cX8_cell 1 = .ok (.iload_n 2, 1) := by decide +kernel
theorem dX8_cell_2 : decode cX8_cell 2 = .ok (.invokestatic 73, 3) := by decide +kernel
theorem dX8_cell_5 : decode cX8_cell 5 = .ok (.ifCond .ne 6, 3) := by decide +kernel
theorem dX8_cell_8 : decode cX8_cell 8 = .ok (.bipush (-2), 2) := by decide +kernel
theorem dX8_cell_10 : decode cX8_cell 10 = .ok (.ireturn, 1) := by decide +kernel
theorem dX8_cell_11 : decode cX8_cell 11 = .ok (.iload_n 3, 1) := by decide +kernel
theorem dX8_cell_12 : decode cX8_cell 12 = .ok (.iconst 0, 1) := by decide +kernel
theorem dX8_cell_13 : decode cX8_cell 13 = .ok (.iconst 1, 1) := by decide +kernel
theorem dX8_cell_14 : decode cX8_cell 14 = .ok (.invokestatic 66, 3) := by decide +kernel
theorem dX8_cell_17 : decode cX8_cell 17 = .ok (.ifCond .ne 6, 3) := by decide +kernel
theorem dX8_cell_20 : decode cX8_cell 20 = .ok (.bipush (-3), 2) := by decide +kernel
theorem dX8_cell_22 : decode cX8_cell 22 = .ok (.ireturn, 1) := by decide +kernel
theorem dX8_cell_23 : decode cX8_cell 23 = .ok (.bipush 8, 2) := by decide +kernel
theorem dX8_cell_25 : decode cX8_cell 25 = .ok (.iload_n 2, 1) := by decide +kernel
theorem dX8_cell_26 : decode cX8_cell 26 = .ok (.imul, 1) := by decide +kernel
theorem dX8_cell_27 : decode cX8_cell 27 = .ok (.iload_n 1, 1) := by decide +kernel
theorem dX8_cell_28 : decode cX8_cell 28 = .ok (.iadd, 1) := by decide +kernel
theorem dX8_cell_29 : decode cX8_cell 29 = .ok (.istore 4, 2) := by decide +kernel
theorem dX8_cell_31 : decode cX8_cell 31 = .ok (.aload_n 0, 1) := by decide +kernel
theorem dX8_cell_32 : decode cX8_cell 32 = .ok (.getfield 7, 3) := by decide +kernel
theorem dX8_cell_35 : decode cX8_cell 35 = .ok (.iload 4, 2) := by decide +kernel
theorem dX8_cell_37 : decode cX8_cell 37 = .ok (.iaload, 1) := by decide +kernel
theorem dX8_cell_38 : decode cX8_cell 38 = .ok (.istore 5, 2) := by decide +kernel
theorem dX8_cell_40 : decode cX8_cell 40 = .ok (.aload_n 0, 1) := by decide +kernel
theorem dX8_cell_41 : decode cX8_cell 41 = .ok (.getfield 7, 3) := by decide +kernel
theorem dX8_cell_44 : decode cX8_cell 44 = .ok (.iload 4, 2) := by decide +kernel
theorem dX8_cell_46 : decode cX8_cell 46 = .ok (.iload_n 3, 1) := by decide +kernel
theorem dX8_cell_47 : decode cX8_cell 47 = .ok (.iastore, 1) := by decide +kernel
theorem dX8_cell_48 : decode cX8_cell 48 = .ok (.aload_n 0, 1) := by decide +kernel
theorem dX8_cell_49 : decode cX8_cell 49 = .ok (.getfield 13, 3) := by decide +kernel
theorem dX8_cell_52 : decode cX8_cell 52 = .ok (.iload 4, 2) := by decide +kernel
theorem dX8_cell_54 : decode cX8_cell 54 = .ok (.iconst 0, 1) := by decide +kernel
theorem dX8_cell_55 : decode cX8_cell 55 = .ok (.iastore, 1) := by decide +kernel
theorem dX8_cell_56 : decode cX8_cell 56 = .ok (.aload_n 0, 1) := by decide +kernel
theorem dX8_cell_57 : decode cX8_cell 57 = .ok (.getfield 16, 3) := by decide +kernel
theorem dX8_cell_60 : decode cX8_cell 60 = .ok (.iload 4, 2) := by decide +kernel
theorem dX8_cell_62 : decode cX8_cell 62 = .ok (.iconst 0, 1) := by decide +kernel
theorem dX8_cell_63 : decode cX8_cell 63 = .ok (.bastore, 1) := by decide +kernel
theorem dX8_cell_64 : decode cX8_cell 64 = .ok (.iload 5, 2) := by decide +kernel
theorem dX8_cell_66 : decode cX8_cell 66 = .ok (.ireturn, 1) := by decide +kernel
theorem dX8_window_0 : decode cX8_window 0 = .ok (.iload_n 1, 1) := by decide +kernel
theorem dX8_window_1 : decode cX8_window 1 = .ok (.iload_n 2, 1) := by decide +kernel
theorem dX8_window_2 : decode cX8_window 2 = .ok (.invokestatic 73, 3) := by decide +kernel
theorem dX8_window_5 : decode cX8_window 5 = .ok (.ifCond .ne 6, 3) := by decide +kernel
theorem dX8_window_8 : decode cX8_window 8 = .ok (.bipush (-2), 2) := by decide +kernel
theorem dX8_window_10 : decode cX8_window 10 = .ok (.ireturn, 1) := by decide +kernel
theorem dX8_window_11 : decode cX8_window 11 = .ok (.iload_n 3, 1) := by decide +kernel
theorem dX8_window_12 : decode cX8_window 12 = .ok (.iconst 1, 1) := by decide +kernel
theorem dX8_window_13 : decode cX8_window 13 = .ok (.bipush 8, 2) := by decide +kernel
theorem dX8_window_15 : decode cX8_window 15 = .ok (.invokestatic 66, 3) := by decide +kernel
theorem dX8_window_18 : decode cX8_window 18 = .ok (.ifCond .ne 6, 3) := by decide +kernel
theorem dX8_window_21 : decode cX8_window 21 = .ok (.bipush (-3), 2) := by decide +kernel
theorem dX8_window_23 : decode cX8_window 23 = .ok (.ireturn, 1) := by decide +kernel
theorem dX8_window_24 : decode cX8_window 24 = .ok (.bipush 8, 2) := by decide +kernel
theorem dX8_window_26 : decode cX8_window 26 = .ok (.iload_n 2, 1) := by decide +kernel
theorem dX8_window_27 : decode cX8_window 27 = .ok (.imul, 1) := by decide +kernel
theorem dX8_window_28 : decode cX8_window 28 = .ok (.iload_n 1, 1) := by decide +kernel
theorem dX8_window_29 : decode cX8_window 29 = .ok (.iadd, 1) := by decide +kernel
theorem dX8_window_30 : decode cX8_window 30 = .ok (.istore 5, 2) := by decide +kernel
theorem dX8_window_32 : decode cX8_window 32 = .ok (.aload_n 0, 1) := by decide +kernel
theorem dX8_window_33 : decode cX8_window 33 = .ok (.getfield 7, 3) := by decide +kernel
theorem dX8_window_36 : decode cX8_window 36 = .ok (.iload 5, 2) := by decide +kernel
theorem dX8_window_38 : decode cX8_window 38 = .ok (.iaload, 1) := by decide +kernel
theorem dX8_window_39 : decode cX8_window 39 = .ok (.istore 6, 2) := by decide +kernel
theorem dX8_window_41 : decode cX8_window 41 = .ok (.aload_n 0, 1) := by decide +kernel
theorem dX8_window_42 : decode cX8_window 42 = .ok (.getfield 7, 3) := by decide +kernel
theorem dX8_window_45 : decode cX8_window 45 = .ok (.iload 5, 2) := by decide +kernel
theorem dX8_window_47 : decode cX8_window 47 = .ok (.iconst 2, 1) := by decide +kernel
theorem dX8_window_48 : decode cX8_window 48 = .ok (.iastore, 1) := by decide +kernel
theorem dX8_window_49 : decode cX8_window 49 = .ok (.aload_n 0, 1) := by decide +kernel
theorem dX8_window_50 : decode cX8_window 50 = .ok (.getfield 13, 3) := by decide +kernel
theorem dX8_window_53 : decode cX8_window 53 = .ok (.iload 5, 2) := by decide +kernel
theorem dX8_window_55 : decode cX8_window 55 = .ok (.iload_n 3, 1) := by decide +kernel
theorem dX8_window_56 : decode cX8_window 56 = .ok (.iastore, 1) := by decide +kernel
theorem dX8_window_57 : decode cX8_window 57 = .ok (.aload_n 0, 1) := by decide +kernel
theorem dX8_window_58 : decode cX8_window 58 = .ok (.getfield 16, 3) := by decide +kernel
theorem dX8_window_61 : decode cX8_window 61 = .ok (.iload 5, 2) := by decide +kernel
theorem dX8_window_63 : decode cX8_window 63 = .ok (.iload 4, 2) := by decide +kernel
theorem dX8_window_65 : decode cX8_window 65 = .ok (.bastore, 1) := by decide +kernel
theorem dX8_window_66 : decode cX8_window 66 = .ok (.iload 6, 2) := by decide +kernel
theorem dX8_window_68 : decode cX8_window 68 = .ok (.ireturn, 1) := by decide +kernel
theorem dX8_at_0 : decode cX8_at 0 = .ok (.iload_n 1, 1) := by decide +kernel
theorem dX8_at_1 : decode cX8_at 1 = .ok (.iload_n 2, 1) := by decide +kernel
theorem dX8_at_2 : decode cX8_at 2 = .ok (.invokestatic 73, 3) := by decide +kernel
theorem dX8_at_5 : decode cX8_at 5 = .ok (.ifCond .ne 6, 3) := by decide +kernel
theorem dX8_at_8 : decode cX8_at 8 = .ok (.bipush (-2), 2) := by decide +kernel
theorem dX8_at_10 : decode cX8_at 10 = .ok (.ireturn, 1) := by decide +kernel
theorem dX8_at_11 : decode cX8_at 11 = .ok (.bipush 8, 2) := by decide +kernel
theorem dX8_at_13 : decode cX8_at 13 = .ok (.iload_n 2, 1) := by decide +kernel
theorem dX8_at_14 : decode cX8_at 14 = .ok (.imul, 1) := by decide +kernel
theorem dX8_at_15 : decode cX8_at 15 = .ok (.iload_n 1, 1) := by decide +kernel
theorem dX8_at_16 : decode cX8_at 16 = .ok (.iadd, 1) := by decide +kernel
theorem dX8_at_17 : decode cX8_at 17 = .ok (.istore 4, 2) := by decide +kernel
theorem dX8_at_19 : decode cX8_at 19 = .ok (.iload_n 3, 1) := by decide +kernel
theorem dX8_at_20 : decode cX8_at 20 = .ok (.ifCond .ne 13, 3) := by decide +kernel
theorem dX8_at_23 : decode cX8_at 23 = .ok (.aload_n 0, 1) := by decide +kernel
theorem dX8_at_24 : decode cX8_at 24 = .ok (.getfield 7, 3) := by decide +kernel
theorem dX8_at_27 : decode cX8_at 27 = .ok (.iload 4, 2) := by decide +kernel
theorem dX8_at_29 : decode cX8_at 29 = .ok (.iaload, 1) := by decide +kernel
theorem dX8_at_30 : decode cX8_at 30 = .ok (.goto 43, 3) := by decide +kernel
theorem dX8_at_33 : decode cX8_at 33 = .ok (.iload_n 3, 1) := by decide +kernel
theorem dX8_at_34 : decode cX8_at 34 = .ok (.iconst 1, 1) := by decide +kernel
theorem dX8_at_35 : decode cX8_at 35 = .ok (.if_icmp .ne 13, 3) := by decide +kernel
theorem dX8_at_38 : decode cX8_at 38 = .ok (.aload_n 0, 1) := by decide +kernel
theorem dX8_at_39 : decode cX8_at 39 = .ok (.getfield 13, 3) := by decide +kernel
theorem dX8_at_42 : decode cX8_at 42 = .ok (.iload 4, 2) := by decide +kernel
theorem dX8_at_44 : decode cX8_at 44 = .ok (.iaload, 1) := by decide +kernel
theorem dX8_at_45 : decode cX8_at 45 = .ok (.goto 28, 3) := by decide +kernel
theorem dX8_at_48 : decode cX8_at 48 = .ok (.iload_n 3, 1) := by decide +kernel
theorem dX8_at_49 : decode cX8_at 49 = .ok (.iconst 2, 1) := by decide +kernel
theorem dX8_at_50 : decode cX8_at 50 = .ok (.if_icmp .ne 21, 3) := by decide +kernel
theorem dX8_at_53 : decode cX8_at 53 = .ok (.aload_n 0, 1) := by decide +kernel
theorem dX8_at_54 : decode cX8_at 54 = .ok (.getfield 16, 3) := by decide +kernel
theorem dX8_at_57 : decode cX8_at 57 = .ok (.iload 4, 2) := by decide +kernel
theorem dX8_at_59 : decode cX8_at 59 = .ok (.baload, 1) := by decide +kernel
theorem dX8_at_60 : decode cX8_at 60 = .ok (.ifCond .eq 7, 3) := by decide +kernel
theorem dX8_at_63 : decode cX8_at 63 = .ok (.iconst 1, 1) := by decide +kernel
theorem dX8_at_64 : decode cX8_at 64 = .ok (.goto 9, 3) := by decide +kernel
theorem dX8_at_67 : decode cX8_at 67 = .ok (.iconst 0, 1) := by decide +kernel
theorem dX8_at_68 : decode cX8_at 68 = .ok (.goto 5, 3) := by decide +kernel
theorem dX8_at_71 : decode cX8_at 71 = .ok (.bipush (-3), 2) := by decide +kernel
theorem dX8_at_73 : decode cX8_at 73 = .ok (.ireturn, 1) := by decide +kernel
theorem dX8_desk_0 : decode cX8_desk 0 = .ok (.iload_n 1, 1) := by decide +kernel
theorem dX8_desk_1 : decode cX8_desk 1 = .ok (.iload_n 2, 1) := by decide +kernel
theorem dX8_desk_2 : decode cX8_desk 2 = .ok (.invokestatic 73, 3) := by decide +kernel
theorem dX8_desk_5 : decode cX8_desk 5 = .ok (.ifCond .ne 6, 3) := by decide +kernel
theorem dX8_desk_8 : decode cX8_desk 8 = .ok (.bipush (-2), 2) := by decide +kernel
theorem dX8_desk_10 : decode cX8_desk 10 = .ok (.ireturn, 1) := by decide +kernel
theorem dX8_desk_11 : decode cX8_desk 11 = .ok (.aload_n 0, 1) := by decide +kernel
theorem dX8_desk_12 : decode cX8_desk 12 = .ok (.getfield 70, 3) := by decide +kernel
theorem dX8_desk_15 : decode cX8_desk 15 = .ok (.iconst 4, 1) := by decide +kernel
theorem dX8_desk_16 : decode cX8_desk 16 = .ok (.if_icmp .ne 6, 3) := by decide +kernel
theorem dX8_desk_19 : decode cX8_desk 19 = .ok (.bipush (-5), 2) := by decide +kernel
theorem dX8_desk_21 : decode cX8_desk 21 = .ok (.ireturn, 1) := by decide +kernel
theorem dX8_desk_22 : decode cX8_desk 22 = .ok (.aload_n 0, 1) := by decide +kernel
theorem dX8_desk_23 : decode cX8_desk 23 = .ok (.getfield 23, 3) := by decide +kernel
theorem dX8_desk_26 : decode cX8_desk 26 = .ok (.aload_n 0, 1) := by decide +kernel
theorem dX8_desk_27 : decode cX8_desk 27 = .ok (.getfield 70, 3) := by decide +kernel
theorem dX8_desk_30 : decode cX8_desk 30 = .ok (.bipush 8, 2) := by decide +kernel
theorem dX8_desk_32 : decode cX8_desk 32 = .ok (.iload_n 2, 1) := by decide +kernel
theorem dX8_desk_33 : decode cX8_desk 33 = .ok (.imul, 1) := by decide +kernel
theorem dX8_desk_34 : decode cX8_desk 34 = .ok (.iload_n 1, 1) := by decide +kernel
theorem dX8_desk_35 : decode cX8_desk 35 = .ok (.iadd, 1) := by decide +kernel
theorem dX8_desk_36 : decode cX8_desk 36 = .ok (.iastore, 1) := by decide +kernel
theorem dX8_desk_37 : decode cX8_desk 37 = .ok (.aload_n 0, 1) := by decide +kernel
theorem dX8_desk_38 : decode cX8_desk 38 = .ok (.dup, 1) := by decide +kernel
theorem dX8_desk_39 : decode cX8_desk 39 = .ok (.getfield 70, 3) := by decide +kernel
theorem dX8_desk_42 : decode cX8_desk 42 = .ok (.iconst 1, 1) := by decide +kernel
theorem dX8_desk_43 : decode cX8_desk 43 = .ok (.iadd, 1) := by decide +kernel
theorem dX8_desk_44 : decode cX8_desk 44 = .ok (.putfield 70, 3) := by decide +kernel
theorem dX8_desk_47 : decode cX8_desk 47 = .ok (.aload_n 0, 1) := by decide +kernel
theorem dX8_desk_48 : decode cX8_desk 48 = .ok (.getfield 70, 3) := by decide +kernel
theorem dX8_desk_51 : decode cX8_desk 51 = .ok (.iconst 1, 1) := by decide +kernel
theorem dX8_desk_52 : decode cX8_desk 52 = .ok (.isub, 1) := by decide +kernel
theorem dX8_desk_53 : decode cX8_desk 53 = .ok (.ireturn, 1) := by decide +kernel
theorem dX8_move_0 : decode cX8_move 0 = .ok (.aload_n 0, 1) := by decide +kernel
theorem dX8_move_1 : decode cX8_move 1 = .ok (.iload_n 1, 1) := by decide +kernel
theorem dX8_move_2 : decode cX8_move 2 = .ok (.invokevirtual 77, 3) := by decide +kernel
theorem dX8_move_5 : decode cX8_move 5 = .ok (.ifCond .eq 11, 3) := by decide +kernel
theorem dX8_move_8 : decode cX8_move 8 = .ok (.iload_n 2, 1) := by decide +kernel
theorem dX8_move_9 : decode cX8_move 9 = .ok (.iload_n 3, 1) := by decide +kernel
theorem dX8_move_10 : decode cX8_move 10 = .ok (.invokestatic 73, 3) := by decide +kernel
theorem dX8_move_13 : decode cX8_move 13 = .ok (.ifCond .ne 6, 3) := by decide +kernel
theorem dX8_move_16 : decode cX8_move 16 = .ok (.bipush (-2), 2) := by decide +kernel
theorem dX8_move_18 : decode cX8_move 18 = .ok (.ireturn, 1) := by decide +kernel
theorem dX8_move_19 : decode cX8_move 19 = .ok (.aload_n 0, 1) := by decide +kernel
theorem dX8_move_20 : decode cX8_move 20 = .ok (.getfield 23, 3) := by decide +kernel
theorem dX8_move_23 : decode cX8_move 23 = .ok (.iload_n 1, 1) := by decide +kernel
theorem dX8_move_24 : decode cX8_move 24 = .ok (.bipush 8, 2) := by decide +kernel
theorem dX8_move_26 : decode cX8_move 26 = .ok (.iload_n 3, 1) := by decide +kernel
theorem dX8_move_27 : decode cX8_move 27 = .ok (.imul, 1) := by decide +kernel
theorem dX8_move_28 : decode cX8_move 28 = .ok (.iload_n 2, 1) := by decide +kernel
theorem dX8_move_29 : decode cX8_move 29 = .ok (.iadd, 1) := by decide +kernel
theorem dX8_move_30 : decode cX8_move 30 = .ok (.iastore, 1) := by decide +kernel
theorem dX8_move_31 : decode cX8_move 31 = .ok (.iconst 1, 1) := by decide +kernel
theorem dX8_move_32 : decode cX8_move 32 = .ok (.ireturn, 1) := by decide +kernel
theorem dX8_isWall_0 : decode cX8_isWall 0 = .ok (.iload_n 1, 1) := by decide +kernel
theorem dX8_isWall_1 : decode cX8_isWall 1 = .ok (.iload_n 2, 1) := by decide +kernel
theorem dX8_isWall_2 : decode cX8_isWall 2 = .ok (.invokestatic 73, 3) := by decide +kernel
theorem dX8_isWall_5 : decode cX8_isWall 5 = .ok (.ifCond .eq 22, 3) := by decide +kernel
theorem dX8_isWall_8 : decode cX8_isWall 8 = .ok (.aload_n 0, 1) := by decide +kernel
theorem dX8_isWall_9 : decode cX8_isWall 9 = .ok (.getfield 7, 3) := by decide +kernel
theorem dX8_isWall_12 : decode cX8_isWall 12 = .ok (.bipush 8, 2) := by decide +kernel
theorem dX8_isWall_14 : decode cX8_isWall 14 = .ok (.iload_n 2, 1) := by decide +kernel
theorem dX8_isWall_15 : decode cX8_isWall 15 = .ok (.imul, 1) := by decide +kernel
theorem dX8_isWall_16 : decode cX8_isWall 16 = .ok (.iload_n 1, 1) := by decide +kernel
theorem dX8_isWall_17 : decode cX8_isWall 17 = .ok (.iadd, 1) := by decide +kernel
theorem dX8_isWall_18 : decode cX8_isWall 18 = .ok (.iaload, 1) := by decide +kernel
theorem dX8_isWall_19 : decode cX8_isWall 19 = .ok (.iconst 1, 1) := by decide +kernel
theorem dX8_isWall_20 : decode cX8_isWall 20 = .ok (.if_icmp .ne 7, 3) := by decide +kernel
theorem dX8_isWall_23 : decode cX8_isWall 23 = .ok (.iconst 1, 1) := by decide +kernel
theorem dX8_isWall_24 : decode cX8_isWall 24 = .ok (.goto 4, 3) := by decide +kernel
theorem dX8_isWall_27 : decode cX8_isWall 27 = .ok (.iconst 0, 1) := by decide +kernel
theorem dX8_isWall_28 : decode cX8_isWall 28 = .ok (.ireturn, 1) := by decide +kernel
theorem dX8_across_0 : decode cX8_across 0 = .ok (.iload_n 0, 1) := by decide +kernel
theorem dX8_across_1 : decode cX8_across 1 = .ok (.tableswitch 89 0 15 #[79, 81, 79, 83, 85, 87, 87, 89, 87, 89, 87, 87, 85, 83, 79, 81], 79) := by decide +kernel
theorem dX8_across_80 : decode cX8_across 80 = .ok (.iconst 1, 1) := by decide +kernel
theorem dX8_across_81 : decode cX8_across 81 = .ok (.ireturn, 1) := by decide +kernel
theorem dX8_across_82 : decode cX8_across 82 = .ok (.iconst 2, 1) := by decide +kernel
theorem dX8_across_83 : decode cX8_across 83 = .ok (.ireturn, 1) := by decide +kernel
theorem dX8_across_84 : decode cX8_across 84 = .ok (.iconst 1, 1) := by decide +kernel
theorem dX8_across_85 : decode cX8_across 85 = .ok (.ireturn, 1) := by decide +kernel
theorem dX8_across_86 : decode cX8_across 86 = .ok (.iconst 0, 1) := by decide +kernel
theorem dX8_across_87 : decode cX8_across 87 = .ok (.ireturn, 1) := by decide +kernel
theorem dX8_across_88 : decode cX8_across 88 = .ok (.iconst (-1), 1) := by decide +kernel
theorem dX8_across_89 : decode cX8_across 89 = .ok (.ireturn, 1) := by decide +kernel
theorem dX8_across_90 : decode cX8_across 90 = .ok (.bipush (-2), 2) := by decide +kernel
theorem dX8_across_92 : decode cX8_across 92 = .ok (.ireturn, 1) := by decide +kernel
theorem dX8_along_0 : decode cX8_along 0 = .ok (.iload_n 0, 1) := by decide +kernel
theorem dX8_along_1 : decode cX8_along 1 = .ok (.bipush 12, 2) := by decide +kernel
theorem dX8_along_3 : decode cX8_along 3 = .ok (.iadd, 1) := by decide +kernel
theorem dX8_along_4 : decode cX8_along 4 = .ok (.bipush 16, 2) := by decide +kernel
theorem dX8_along_6 : decode cX8_along 6 = .ok (.irem, 1) := by decide +kernel
theorem dX8_along_7 : decode cX8_along 7 = .ok (.invokestatic 81, 3) := by decide +kernel
theorem dX8_along_10 : decode cX8_along 10 = .ok (.ireturn, 1) := by decide +kernel
theorem dX8_walk_0 : decode cX8_walk 0 = .ok (.aload_n 0, 1) := by decide +kernel
theorem dX8_walk_1 : decode cX8_walk 1 = .ok (.getfield 23, 3) := by decide +kernel
theorem dX8_walk_4 : decode cX8_walk 4 = .ok (.iload_n 1, 1) := by decide +kernel
theorem dX8_walk_5 : decode cX8_walk 5 = .ok (.iaload, 1) := by decide +kernel
theorem dX8_walk_6 : decode cX8_walk 6 = .ok (.bipush 8, 2) := by decide +kernel
theorem dX8_walk_8 : decode cX8_walk 8 = .ok (.irem, 1) := by decide +kernel
theorem dX8_walk_9 : decode cX8_walk 9 = .ok (.istore_n 3, 1) := by decide +kernel
theorem dX8_walk_10 : decode cX8_walk 10 = .ok (.aload_n 0, 1) := by decide +kernel
theorem dX8_walk_11 : decode cX8_walk 11 = .ok (.getfield 23, 3) := by decide +kernel
theorem dX8_walk_14 : decode cX8_walk 14 = .ok (.iload_n 1, 1) := by decide +kernel
theorem dX8_walk_15 : decode cX8_walk 15 = .ok (.iaload, 1) := by decide +kernel
theorem dX8_walk_16 : decode cX8_walk 16 = .ok (.bipush 8, 2) := by decide +kernel
theorem dX8_walk_18 : decode cX8_walk 18 = .ok (.idiv, 1) := by decide +kernel
theorem dX8_walk_19 : decode cX8_walk 19 = .ok (.istore 4, 2) := by decide +kernel
theorem dX8_walk_21 : decode cX8_walk 21 = .ok (.iload_n 2, 1) := by decide +kernel
theorem dX8_walk_22 : decode cX8_walk 22 = .ok (.invokestatic 81, 3) := by decide +kernel
theorem dX8_walk_25 : decode cX8_walk 25 = .ok (.istore 5, 2) := by decide +kernel
theorem dX8_walk_27 : decode cX8_walk 27 = .ok (.iload_n 2, 1) := by decide +kernel
theorem dX8_walk_28 : decode cX8_walk 28 = .ok (.invokestatic 85, 3) := by decide +kernel
theorem dX8_walk_31 : decode cX8_walk 31 = .ok (.istore 6, 2) := by decide +kernel
theorem dX8_walk_33 : decode cX8_walk 33 = .ok (.aload_n 0, 1) := by decide +kernel
theorem dX8_walk_34 : decode cX8_walk 34 = .ok (.iconst 0, 1) := by decide +kernel
theorem dX8_walk_35 : decode cX8_walk 35 = .ok (.putfield 88, 3) := by decide +kernel
theorem dX8_walk_38 : decode cX8_walk 38 = .ok (.aload_n 0, 1) := by decide +kernel
theorem dX8_walk_39 : decode cX8_walk 39 = .ok (.iconst 0, 1) := by decide +kernel
theorem dX8_walk_40 : decode cX8_walk 40 = .ok (.putfield 91, 3) := by decide +kernel
theorem dX8_walk_43 : decode cX8_walk 43 = .ok (.iconst 1, 1) := by decide +kernel
theorem dX8_walk_44 : decode cX8_walk 44 = .ok (.istore 7, 2) := by decide +kernel
theorem dX8_walk_46 : decode cX8_walk 46 = .ok (.iload 7, 2) := by decide +kernel
theorem dX8_walk_48 : decode cX8_walk 48 = .ok (.ifCond .eq 283, 3) := by decide +kernel
theorem dX8_walk_51 : decode cX8_walk 51 = .ok (.iload_n 3, 1) := by decide +kernel
theorem dX8_walk_52 : decode cX8_walk 52 = .ok (.iload 4, 2) := by decide +kernel
theorem dX8_walk_54 : decode cX8_walk 54 = .ok (.invokestatic 73, 3) := by decide +kernel
theorem dX8_walk_57 : decode cX8_walk 57 = .ok (.ifCond .eq 274, 3) := by decide +kernel
theorem dX8_walk_60 : decode cX8_walk 60 = .ok (.iconst 0, 1) := by decide +kernel
theorem dX8_walk_61 : decode cX8_walk 61 = .ok (.istore 8, 2) := by decide +kernel
theorem dX8_walk_63 : decode cX8_walk 63 = .ok (.iload 5, 2) := by decide +kernel
theorem dX8_walk_65 : decode cX8_walk 65 = .ok (.iconst 2, 1) := by decide +kernel
theorem dX8_walk_66 : decode cX8_walk 66 = .ok (.if_icmp .eq 10, 3) := by decide +kernel
theorem dX8_walk_69 : decode cX8_walk 69 = .ok (.iload 5, 2) := by decide +kernel
theorem dX8_walk_71 : decode cX8_walk 71 = .ok (.bipush (-2), 2) := by decide +kernel
theorem dX8_walk_73 : decode cX8_walk 73 = .ok (.if_icmp .ne 51, 3) := by decide +kernel
theorem dX8_walk_76 : decode cX8_walk 76 = .ok (.iload 6, 2) := by decide +kernel
theorem dX8_walk_78 : decode cX8_walk 78 = .ok (.ifCond .eq 40, 3) := by decide +kernel
theorem dX8_walk_81 : decode cX8_walk 81 = .ok (.aload_n 0, 1) := by decide +kernel
theorem dX8_walk_82 : decode cX8_walk 82 = .ok (.iload_n 3, 1) := by decide +kernel
theorem dX8_walk_83 : decode cX8_walk 83 = .ok (.iload 5, 2) := by decide +kernel
theorem dX8_walk_85 : decode cX8_walk 85 = .ok (.iconst 2, 1) := by decide +kernel
theorem dX8_walk_86 : decode cX8_walk 86 = .ok (.idiv, 1) := by decide +kernel
theorem dX8_walk_87 : decode cX8_walk 87 = .ok (.iadd, 1) := by decide +kernel
theorem dX8_walk_88 : decode cX8_walk 88 = .ok (.iload 4, 2) := by decide +kernel
theorem dX8_walk_90 : decode cX8_walk 90 = .ok (.invokevirtual 94, 3) := by decide +kernel
theorem dX8_walk_93 : decode cX8_walk 93 = .ok (.ifCond .eq 25, 3) := by decide +kernel
theorem dX8_walk_96 : decode cX8_walk 96 = .ok (.aload_n 0, 1) := by decide +kernel
theorem dX8_walk_97 : decode cX8_walk 97 = .ok (.iload_n 3, 1) := by decide +kernel
theorem dX8_walk_98 : decode cX8_walk 98 = .ok (.iload 5, 2) := by decide +kernel
theorem dX8_walk_100 : decode cX8_walk 100 = .ok (.iconst 2, 1) := by decide +kernel
theorem dX8_walk_101 : decode cX8_walk 101 = .ok (.idiv, 1) := by decide +kernel
theorem dX8_walk_102 : decode cX8_walk 102 = .ok (.iadd, 1) := by decide +kernel
theorem dX8_walk_103 : decode cX8_walk 103 = .ok (.iload 4, 2) := by decide +kernel
theorem dX8_walk_105 : decode cX8_walk 105 = .ok (.iload 6, 2) := by decide +kernel
theorem dX8_walk_107 : decode cX8_walk 107 = .ok (.iadd, 1) := by decide +kernel
theorem dX8_walk_108 : decode cX8_walk 108 = .ok (.invokevirtual 94, 3) := by decide +kernel
theorem dX8_walk_111 : decode cX8_walk 111 = .ok (.ifCond .eq 7, 3) := by decide +kernel
theorem dX8_walk_114 : decode cX8_walk 114 = .ok (.iconst 1, 1) := by decide +kernel
theorem dX8_walk_115 : decode cX8_walk 115 = .ok (.goto 4, 3) := by decide +kernel
theorem dX8_walk_118 : decode cX8_walk 118 = .ok (.iconst 0, 1) := by decide +kernel
theorem dX8_walk_119 : decode cX8_walk 119 = .ok (.istore 8, 2) := by decide +kernel
theorem dX8_walk_121 : decode cX8_walk 121 = .ok (.goto 107, 3) := by decide +kernel
theorem dX8_walk_124 : decode cX8_walk 124 = .ok (.iload 6, 2) := by decide +kernel
theorem dX8_walk_126 : decode cX8_walk 126 = .ok (.iconst 2, 1) := by decide +kernel
theorem dX8_walk_127 : decode cX8_walk 127 = .ok (.if_icmp .eq 10, 3) := by decide +kernel
theorem dX8_walk_130 : decode cX8_walk 130 = .ok (.iload 6, 2) := by decide +kernel
theorem dX8_walk_132 : decode cX8_walk 132 = .ok (.bipush (-2), 2) := by decide +kernel
theorem dX8_walk_134 : decode cX8_walk 134 = .ok (.if_icmp .ne 51, 3) := by decide +kernel
theorem dX8_walk_137 : decode cX8_walk 137 = .ok (.iload 5, 2) := by decide +kernel
theorem dX8_walk_139 : decode cX8_walk 139 = .ok (.ifCond .eq 40, 3) := by decide +kernel
theorem dX8_walk_142 : decode cX8_walk 142 = .ok (.aload_n 0, 1) := by decide +kernel
theorem dX8_walk_143 : decode cX8_walk 143 = .ok (.iload_n 3, 1) := by decide +kernel
theorem dX8_walk_144 : decode cX8_walk 144 = .ok (.iload 4, 2) := by decide +kernel
theorem dX8_walk_146 : decode cX8_walk 146 = .ok (.iload 6, 2) := by decide +kernel
theorem dX8_walk_148 : decode cX8_walk 148 = .ok (.iconst 2, 1) := by decide +kernel
theorem dX8_walk_149 : decode cX8_walk 149 = .ok (.idiv, 1) := by decide +kernel
theorem dX8_walk_150 : decode cX8_walk 150 = .ok (.iadd, 1) := by decide +kernel
theorem dX8_walk_151 : decode cX8_walk 151 = .ok (.invokevirtual 94, 3) := by decide +kernel
theorem dX8_walk_154 : decode cX8_walk 154 = .ok (.ifCond .eq 25, 3) := by decide +kernel
theorem dX8_walk_157 : decode cX8_walk 157 = .ok (.aload_n 0, 1) := by decide +kernel
theorem dX8_walk_158 : decode cX8_walk 158 = .ok (.iload_n 3, 1) := by decide +kernel
theorem dX8_walk_159 : decode cX8_walk 159 = .ok (.iload 5, 2) := by decide +kernel
theorem dX8_walk_161 : decode cX8_walk 161 = .ok (.iadd, 1) := by decide +kernel
theorem dX8_walk_162 : decode cX8_walk 162 = .ok (.iload 4, 2) := by decide +kernel
theorem dX8_walk_164 : decode cX8_walk 164 = .ok (.iload 6, 2) := by decide +kernel
theorem dX8_walk_166 : decode cX8_walk 166 = .ok (.iconst 2, 1) := by decide +kernel
theorem dX8_walk_167 : decode cX8_walk 167 = .ok (.idiv, 1) := by decide +kernel
theorem dX8_walk_168 : decode cX8_walk 168 = .ok (.iadd, 1) := by decide +kernel
theorem dX8_walk_169 : decode cX8_walk 169 = .ok (.invokevirtual 94, 3) := by decide +kernel
theorem dX8_walk_172 : decode cX8_walk 172 = .ok (.ifCond .eq 7, 3) := by decide +kernel
theorem dX8_walk_175 : decode cX8_walk 175 = .ok (.iconst 1, 1) := by decide +kernel
theorem dX8_walk_176 : decode cX8_walk 176 = .ok (.goto 4, 3) := by decide +kernel
theorem dX8_walk_179 : decode cX8_walk 179 = .ok (.iconst 0, 1) := by decide +kernel
theorem dX8_walk_180 : decode cX8_walk 180 = .ok (.istore 8, 2) := by decide +kernel
theorem dX8_walk_182 : decode cX8_walk 182 = .ok (.goto 46, 3) := by decide +kernel
theorem dX8_walk_185 : decode cX8_walk 185 = .ok (.iload 5, 2) := by decide +kernel
theorem dX8_walk_187 : decode cX8_walk 187 = .ok (.ifCond .eq 41, 3) := by decide +kernel
theorem dX8_walk_190 : decode cX8_walk 190 = .ok (.iload 6, 2) := by decide +kernel
theorem dX8_walk_192 : decode cX8_walk 192 = .ok (.ifCond .eq 36, 3) := by decide +kernel
theorem dX8_walk_195 : decode cX8_walk 195 = .ok (.aload_n 0, 1) := by decide +kernel
theorem dX8_walk_196 : decode cX8_walk 196 = .ok (.iload_n 3, 1) := by decide +kernel
theorem dX8_walk_197 : decode cX8_walk 197 = .ok (.iload 5, 2) := by decide +kernel
theorem dX8_walk_199 : decode cX8_walk 199 = .ok (.iadd, 1) := by decide +kernel
theorem dX8_walk_200 : decode cX8_walk 200 = .ok (.iload 4, 2) := by decide +kernel
theorem dX8_walk_202 : decode cX8_walk 202 = .ok (.invokevirtual 94, 3) := by decide +kernel
theorem dX8_walk_205 : decode cX8_walk 205 = .ok (.ifCond .eq 20, 3) := by decide +kernel
theorem dX8_walk_208 : decode cX8_walk 208 = .ok (.aload_n 0, 1) := by decide +kernel
theorem dX8_walk_209 : decode cX8_walk 209 = .ok (.iload_n 3, 1) := by decide +kernel
theorem dX8_walk_210 : decode cX8_walk 210 = .ok (.iload 4, 2) := by decide +kernel
theorem dX8_walk_212 : decode cX8_walk 212 = .ok (.iload 6, 2) := by decide +kernel
theorem dX8_walk_214 : decode cX8_walk 214 = .ok (.iadd, 1) := by decide +kernel
theorem dX8_walk_215 : decode cX8_walk 215 = .ok (.invokevirtual 94, 3) := by decide +kernel
theorem dX8_walk_218 : decode cX8_walk 218 = .ok (.ifCond .eq 7, 3) := by decide +kernel
theorem dX8_walk_221 : decode cX8_walk 221 = .ok (.iconst 1, 1) := by decide +kernel
theorem dX8_walk_222 : decode cX8_walk 222 = .ok (.goto 4, 3) := by decide +kernel
theorem dX8_walk_225 : decode cX8_walk 225 = .ok (.iconst 0, 1) := by decide +kernel
theorem dX8_walk_226 : decode cX8_walk 226 = .ok (.istore 8, 2) := by decide +kernel
theorem dX8_walk_228 : decode cX8_walk 228 = .ok (.iload_n 3, 1) := by decide +kernel
theorem dX8_walk_229 : decode cX8_walk 229 = .ok (.iload 5, 2) := by decide +kernel
theorem dX8_walk_231 : decode cX8_walk 231 = .ok (.iadd, 1) := by decide +kernel
theorem dX8_walk_232 : decode cX8_walk 232 = .ok (.istore_n 3, 1) := by decide +kernel
theorem dX8_walk_233 : decode cX8_walk 233 = .ok (.iload 4, 2) := by decide +kernel
theorem dX8_walk_235 : decode cX8_walk 235 = .ok (.iload 6, 2) := by decide +kernel
theorem dX8_walk_237 : decode cX8_walk 237 = .ok (.iadd, 1) := by decide +kernel
theorem dX8_walk_238 : decode cX8_walk 238 = .ok (.istore 4, 2) := by decide +kernel
theorem dX8_walk_240 : decode cX8_walk 240 = .ok (.aload_n 0, 1) := by decide +kernel
theorem dX8_walk_241 : decode cX8_walk 241 = .ok (.dup, 1) := by decide +kernel
theorem dX8_walk_242 : decode cX8_walk 242 = .ok (.getfield 88, 3) := by decide +kernel
theorem dX8_walk_245 : decode cX8_walk 245 = .ok (.iconst 1, 1) := by decide +kernel
theorem dX8_walk_246 : decode cX8_walk 246 = .ok (.iadd, 1) := by decide +kernel
theorem dX8_walk_247 : decode cX8_walk 247 = .ok (.putfield 88, 3) := by decide +kernel
theorem dX8_walk_250 : decode cX8_walk 250 = .ok (.iload 8, 2) := by decide +kernel
theorem dX8_walk_252 : decode cX8_walk 252 = .ok (.ifCond .ne 17, 3) := by decide +kernel
theorem dX8_walk_255 : decode cX8_walk 255 = .ok (.aload_n 0, 1) := by decide +kernel
theorem dX8_walk_256 : decode cX8_walk 256 = .ok (.iload_n 3, 1) := by decide +kernel
theorem dX8_walk_257 : decode cX8_walk 257 = .ok (.iload 4, 2) := by decide +kernel
theorem dX8_walk_259 : decode cX8_walk 259 = .ok (.invokevirtual 94, 3) := by decide +kernel
theorem dX8_walk_262 : decode cX8_walk 262 = .ok (.ifCond .ne 7, 3) := by decide +kernel
theorem dX8_walk_265 : decode cX8_walk 265 = .ok (.iconst 1, 1) := by decide +kernel
theorem dX8_walk_266 : decode cX8_walk 266 = .ok (.goto 4, 3) := by decide +kernel
theorem dX8_walk_269 : decode cX8_walk 269 = .ok (.iconst 0, 1) := by decide +kernel
theorem dX8_walk_270 : decode cX8_walk 270 = .ok (.istore 7, 2) := by decide +kernel
theorem dX8_walk_272 : decode cX8_walk 272 = .ok (.iload 7, 2) := by decide +kernel
theorem dX8_walk_274 : decode cX8_walk 274 = .ok (.ifCond .eq 54, 3) := by decide +kernel
theorem dX8_walk_277 : decode cX8_walk 277 = .ok (.iload_n 3, 1) := by decide +kernel
theorem dX8_walk_278 : decode cX8_walk 278 = .ok (.iload 4, 2) := by decide +kernel
theorem dX8_walk_280 : decode cX8_walk 280 = .ok (.invokestatic 73, 3) := by decide +kernel
theorem dX8_walk_283 : decode cX8_walk 283 = .ok (.ifCond .eq 45, 3) := by decide +kernel
theorem dX8_walk_286 : decode cX8_walk 286 = .ok (.aload_n 0, 1) := by decide +kernel
theorem dX8_walk_287 : decode cX8_walk 287 = .ok (.getfield 7, 3) := by decide +kernel
theorem dX8_walk_290 : decode cX8_walk 290 = .ok (.bipush 8, 2) := by decide +kernel
theorem dX8_walk_292 : decode cX8_walk 292 = .ok (.iload 4, 2) := by decide +kernel
theorem dX8_walk_294 : decode cX8_walk 294 = .ok (.imul, 1) := by decide +kernel
theorem dX8_walk_295 : decode cX8_walk 295 = .ok (.iload_n 3, 1) := by decide +kernel
theorem dX8_walk_296 : decode cX8_walk 296 = .ok (.iadd, 1) := by decide +kernel
theorem dX8_walk_297 : decode cX8_walk 297 = .ok (.iaload, 1) := by decide +kernel
theorem dX8_walk_298 : decode cX8_walk 298 = .ok (.iconst 2, 1) := by decide +kernel
theorem dX8_walk_299 : decode cX8_walk 299 = .ok (.if_icmp .ne 29, 3) := by decide +kernel
theorem dX8_walk_302 : decode cX8_walk 302 = .ok (.aload_n 0, 1) := by decide +kernel
theorem dX8_walk_303 : decode cX8_walk 303 = .ok (.getfield 63, 3) := by decide +kernel
theorem dX8_walk_306 : decode cX8_walk 306 = .ok (.aload_n 0, 1) := by decide +kernel
theorem dX8_walk_307 : decode cX8_walk 307 = .ok (.getfield 91, 3) := by decide +kernel
theorem dX8_walk_310 : decode cX8_walk 310 = .ok (.bipush 8, 2) := by decide +kernel
theorem dX8_walk_312 : decode cX8_walk 312 = .ok (.iload 4, 2) := by decide +kernel
theorem dX8_walk_314 : decode cX8_walk 314 = .ok (.imul, 1) := by decide +kernel
theorem dX8_walk_315 : decode cX8_walk 315 = .ok (.iload_n 3, 1) := by decide +kernel
theorem dX8_walk_316 : decode cX8_walk 316 = .ok (.iadd, 1) := by decide +kernel
theorem dX8_walk_317 : decode cX8_walk 317 = .ok (.iastore, 1) := by decide +kernel
theorem dX8_walk_318 : decode cX8_walk 318 = .ok (.aload_n 0, 1) := by decide +kernel
theorem dX8_walk_319 : decode cX8_walk 319 = .ok (.dup, 1) := by decide +kernel
theorem dX8_walk_320 : decode cX8_walk 320 = .ok (.getfield 91, 3) := by decide +kernel
theorem dX8_walk_323 : decode cX8_walk 323 = .ok (.iconst 1, 1) := by decide +kernel
theorem dX8_walk_324 : decode cX8_walk 324 = .ok (.iadd, 1) := by decide +kernel
theorem dX8_walk_325 : decode cX8_walk 325 = .ok (.putfield 91, 3) := by decide +kernel
theorem dX8_walk_328 : decode cX8_walk 328 = .ok (.goto (-282), 3) := by decide +kernel
theorem dX8_walk_331 : decode cX8_walk 331 = .ok (.iload 7, 2) := by decide +kernel
theorem dX8_walk_333 : decode cX8_walk 333 = .ok (.ireturn, 1) := by decide +kernel
theorem dX8_share_0 : decode cX8_share 0 = .ok (.aload_n 0, 1) := by decide +kernel
theorem dX8_share_1 : decode cX8_share 1 = .ok (.iload_n 1, 1) := by decide +kernel
theorem dX8_share_2 : decode cX8_share 2 = .ok (.iload_n 2, 1) := by decide +kernel
theorem dX8_share_3 : decode cX8_share 3 = .ok (.invokevirtual 97, 3) := by decide +kernel
theorem dX8_share_6 : decode cX8_share 6 = .ok (.ifCond .ne 5, 3) := by decide +kernel
theorem dX8_share_9 : decode cX8_share 9 = .ok (.lconst 0, 1) := by decide +kernel
theorem dX8_share_10 : decode cX8_share 10 = .ok (.lreturn, 1) := by decide +kernel
theorem dX8_share_11 : decode cX8_share 11 = .ok (.ldc2_w 100, 3) := by decide +kernel
theorem dX8_share_14 : decode cX8_share 14 = .ok (.lstore 4, 2) := by decide +kernel
theorem dX8_share_16 : decode cX8_share 16 = .ok (.iconst 0, 1) := by decide +kernel
theorem dX8_share_17 : decode cX8_share 17 = .ok (.istore 6, 2) := by decide +kernel
theorem dX8_share_19 : decode cX8_share 19 = .ok (.iload 6, 2) := by decide +kernel
theorem dX8_share_21 : decode cX8_share 21 = .ok (.aload_n 0, 1) := by decide +kernel
theorem dX8_share_22 : decode cX8_share 22 = .ok (.getfield 91, 3) := by decide +kernel
theorem dX8_share_25 : decode cX8_share 25 = .ok (.if_icmp .ge 81, 3) := by decide +kernel
theorem dX8_share_28 : decode cX8_share 28 = .ok (.iload_n 3, 1) := by decide +kernel
theorem dX8_share_29 : decode cX8_share 29 = .ok (.ifCond .ne 37, 3) := by decide +kernel
theorem dX8_share_32 : decode cX8_share 32 = .ok (.aload_n 0, 1) := by decide +kernel
theorem dX8_share_33 : decode cX8_share 33 = .ok (.getfield 16, 3) := by decide +kernel
theorem dX8_share_36 : decode cX8_share 36 = .ok (.aload_n 0, 1) := by decide +kernel
theorem dX8_share_37 : decode cX8_share 37 = .ok (.getfield 63, 3) := by decide +kernel
theorem dX8_share_40 : decode cX8_share 40 = .ok (.iload 6, 2) := by decide +kernel
theorem dX8_share_42 : decode cX8_share 42 = .ok (.iaload, 1) := by decide +kernel
theorem dX8_share_43 : decode cX8_share 43 = .ok (.baload, 1) := by decide +kernel
theorem dX8_share_44 : decode cX8_share 44 = .ok (.ifCond .eq 22, 3) := by decide +kernel
theorem dX8_share_47 : decode cX8_share 47 = .ok (.aload_n 0, 1) := by decide +kernel
theorem dX8_share_48 : decode cX8_share 48 = .ok (.getfield 20, 3) := by decide +kernel
theorem dX8_share_51 : decode cX8_share 51 = .ok (.aload_n 0, 1) := by decide +kernel
theorem dX8_share_52 : decode cX8_share 52 = .ok (.getfield 63, 3) := by decide +kernel
theorem dX8_share_55 : decode cX8_share 55 = .ok (.iload 6, 2) := by decide +kernel
theorem dX8_share_57 : decode cX8_share 57 = .ok (.iaload, 1) := by decide +kernel
theorem dX8_share_58 : decode cX8_share 58 = .ok (.baload, 1) := by decide +kernel
theorem dX8_share_59 : decode cX8_share 59 = .ok (.ifCond .eq 7, 3) := by decide +kernel
theorem dX8_share_62 : decode cX8_share 62 = .ok (.iconst 1, 1) := by decide +kernel
theorem dX8_share_63 : decode cX8_share 63 = .ok (.goto 4, 3) := by decide +kernel
theorem dX8_share_66 : decode cX8_share 66 = .ok (.iconst 0, 1) := by decide +kernel
theorem dX8_share_67 : decode cX8_share 67 = .ok (.istore 7, 2) := by decide +kernel
theorem dX8_share_69 : decode cX8_share 69 = .ok (.lload 4, 2) := by decide +kernel
theorem dX8_share_71 : decode cX8_share 71 = .ok (.ldc2_w 102, 3) := by decide +kernel
theorem dX8_share_74 : decode cX8_share 74 = .ok (.ldiv, 1) := by decide +kernel
theorem dX8_share_75 : decode cX8_share 75 = .ok (.iload 7, 2) := by decide +kernel
theorem dX8_share_77 : decode cX8_share 77 = .ok (.ifCond .eq 7, 3) := by decide +kernel
theorem dX8_share_80 : decode cX8_share 80 = .ok (.iconst 1, 1) := by decide +kernel
theorem dX8_share_81 : decode cX8_share 81 = .ok (.goto 15, 3) := by decide +kernel
theorem dX8_share_84 : decode cX8_share 84 = .ok (.aload_n 0, 1) := by decide +kernel
theorem dX8_share_85 : decode cX8_share 85 = .ok (.getfield 13, 3) := by decide +kernel
theorem dX8_share_88 : decode cX8_share 88 = .ok (.aload_n 0, 1) := by decide +kernel
theorem dX8_share_89 : decode cX8_share 89 = .ok (.getfield 63, 3) := by decide +kernel
theorem dX8_share_92 : decode cX8_share 92 = .ok (.iload 6, 2) := by decide +kernel
theorem dX8_share_94 : decode cX8_share 94 = .ok (.iaload, 1) := by decide +kernel
theorem dX8_share_95 : decode cX8_share 95 = .ok (.iaload, 1) := by decide +kernel
theorem dX8_share_96 : decode cX8_share 96 = .ok (.i2l, 1) := by decide +kernel
theorem dX8_share_97 : decode cX8_share 97 = .ok (.lmul, 1) := by decide +kernel
theorem dX8_share_98 : decode cX8_share 98 = .ok (.lstore 4, 2) := by decide +kernel
theorem dX8_share_100 : decode cX8_share 100 = .ok (.iinc 6 1, 3) := by decide +kernel
theorem dX8_share_103 : decode cX8_share 103 = .ok (.goto (-84), 3) := by decide +kernel
theorem dX8_share_106 : decode cX8_share 106 = .ok (.lload 4, 2) := by decide +kernel
theorem dX8_share_108 : decode cX8_share 108 = .ok (.lreturn, 1) := by decide +kernel
theorem dX8_shares_0 : decode cX8_shares 0 = .ok (.lconst 0, 1) := by decide +kernel
theorem dX8_shares_1 : decode cX8_shares 1 = .ok (.lstore_n 3, 1) := by decide +kernel
theorem dX8_shares_2 : decode cX8_shares 2 = .ok (.iconst 0, 1) := by decide +kernel
theorem dX8_shares_3 : decode cX8_shares 3 = .ok (.istore 5, 2) := by decide +kernel
theorem dX8_shares_5 : decode cX8_shares 5 = .ok (.iload 5, 2) := by decide +kernel
theorem dX8_shares_7 : decode cX8_shares 7 = .ok (.bipush 16, 2) := by decide +kernel
theorem dX8_shares_9 : decode cX8_shares 9 = .ok (.if_icmp .ge 20, 3) := by decide +kernel
theorem dX8_shares_12 : decode cX8_shares 12 = .ok (.lload_n 3, 1) := by decide +kernel
theorem dX8_shares_13 : decode cX8_shares 13 = .ok (.aload_n 0, 1) := by decide +kernel
theorem dX8_shares_14 : decode cX8_shares 14 = .ok (.iload_n 1, 1) := by decide +kernel
theorem dX8_shares_15 : decode cX8_shares 15 = .ok (.iload 5, 2) := by decide +kernel
theorem dX8_shares_17 : decode cX8_shares 17 = .ok (.iload_n 2, 1) := by decide +kernel
theorem dX8_shares_18 : decode cX8_shares 18 = .ok (.invokevirtual 104, 3) := by decide +kernel
theorem dX8_shares_21 : decode cX8_shares 21 = .ok (.ladd, 1) := by decide +kernel
theorem dX8_shares_22 : decode cX8_shares 22 = .ok (.lstore_n 3, 1) := by decide +kernel
theorem dX8_shares_23 : decode cX8_shares 23 = .ok (.iinc 5 1, 3) := by decide +kernel
theorem dX8_shares_26 : decode cX8_shares 26 = .ok (.goto (-21), 3) := by decide +kernel
theorem dX8_shares_29 : decode cX8_shares 29 = .ok (.lload_n 3, 1) := by decide +kernel
theorem dX8_shares_30 : decode cX8_shares 30 = .ok (.lreturn, 1) := by decide +kernel
theorem dX8_ray_0 : decode cX8_ray 0 = .ok (.aload_n 0, 1) := by decide +kernel
theorem dX8_ray_1 : decode cX8_ray 1 = .ok (.iload_n 1, 1) := by decide +kernel
theorem dX8_ray_2 : decode cX8_ray 2 = .ok (.invokevirtual 77, 3) := by decide +kernel
theorem dX8_ray_5 : decode cX8_ray 5 = .ok (.ifCond .eq 13, 3) := by decide +kernel
theorem dX8_ray_8 : decode cX8_ray 8 = .ok (.iload_n 2, 1) := by decide +kernel
theorem dX8_ray_9 : decode cX8_ray 9 = .ok (.iconst 0, 1) := by decide +kernel
theorem dX8_ray_10 : decode cX8_ray 10 = .ok (.bipush 15, 2) := by decide +kernel
theorem dX8_ray_12 : decode cX8_ray 12 = .ok (.invokestatic 66, 3) := by decide +kernel
theorem dX8_ray_15 : decode cX8_ray 15 = .ok (.ifCond .ne 6, 3) := by decide +kernel
theorem dX8_ray_18 : decode cX8_ray 18 = .ok (.bipush (-2), 2) := by decide +kernel
theorem dX8_ray_20 : decode cX8_ray 20 = .ok (.ireturn, 1) := by decide +kernel
theorem dX8_ray_21 : decode cX8_ray 21 = .ok (.aload_n 0, 1) := by decide +kernel
theorem dX8_ray_22 : decode cX8_ray 22 = .ok (.iload_n 1, 1) := by decide +kernel
theorem dX8_ray_23 : decode cX8_ray 23 = .ok (.iload_n 2, 1) := by decide +kernel
theorem dX8_ray_24 : decode cX8_ray 24 = .ok (.invokevirtual 97, 3) := by decide +kernel
theorem dX8_ray_27 : decode cX8_ray 27 = .ok (.ifCond .eq 10, 3) := by decide +kernel
theorem dX8_ray_30 : decode cX8_ray 30 = .ok (.aload_n 0, 1) := by decide +kernel
theorem dX8_ray_31 : decode cX8_ray 31 = .ok (.getfield 88, 3) := by decide +kernel
theorem dX8_ray_34 : decode cX8_ray 34 = .ok (.goto 4, 3) := by decide +kernel
theorem dX8_ray_37 : decode cX8_ray 37 = .ok (.iconst (-1), 1) := by decide +kernel
theorem dX8_ray_38 : decode cX8_ray 38 = .ok (.ireturn, 1) := by decide +kernel
theorem dX8_skyOf_0 : decode cX8_skyOf 0 = .ok (.ldc2_w 108, 3) := by decide +kernel
theorem dX8_skyOf_3 : decode cX8_skyOf 3 = .ok (.aload_n 0, 1) := by decide +kernel
theorem dX8_skyOf_4 : decode cX8_skyOf 4 = .ok (.iload_n 1, 1) := by decide +kernel
theorem dX8_skyOf_5 : decode cX8_skyOf 5 = .ok (.iconst 1, 1) := by decide +kernel
theorem dX8_skyOf_6 : decode cX8_skyOf 6 = .ok (.invokevirtual 110, 3) := by decide +kernel
theorem dX8_skyOf_9 : decode cX8_skyOf 9 = .ok (.lmul, 1) := by decide +kernel
theorem dX8_skyOf_10 : decode cX8_skyOf 10 = .ok (.ldc2_w 114, 3) := by decide +kernel
theorem dX8_skyOf_13 : decode cX8_skyOf 13 = .ok (.ldiv, 1) := by decide +kernel
theorem dX8_skyOf_14 : decode cX8_skyOf 14 = .ok (.l2i, 1) := by decide +kernel
theorem dX8_skyOf_15 : decode cX8_skyOf 15 = .ok (.ireturn, 1) := by decide +kernel
theorem dX8_sky_0 : decode cX8_sky 0 = .ok (.aload_n 0, 1) := by decide +kernel
theorem dX8_sky_1 : decode cX8_sky 1 = .ok (.iload_n 1, 1) := by decide +kernel
theorem dX8_sky_2 : decode cX8_sky 2 = .ok (.invokevirtual 77, 3) := by decide +kernel
theorem dX8_sky_5 : decode cX8_sky 5 = .ok (.ifCond .eq 11, 3) := by decide +kernel
theorem dX8_sky_8 : decode cX8_sky 8 = .ok (.aload_n 0, 1) := by decide +kernel
theorem dX8_sky_9 : decode cX8_sky 9 = .ok (.iload_n 1, 1) := by decide +kernel
theorem dX8_sky_10 : decode cX8_sky 10 = .ok (.invokevirtual 116, 3) := by decide +kernel
theorem dX8_sky_13 : decode cX8_sky 13 = .ok (.goto 5, 3) := by decide +kernel
theorem dX8_sky_16 : decode cX8_sky 16 = .ok (.bipush (-2), 2) := by decide +kernel
theorem dX8_sky_18 : decode cX8_sky 18 = .ok (.ireturn, 1) := by decide +kernel
theorem dX8_bright_0 : decode cX8_bright 0 = .ok (.iload_n 1, 1) := by decide +kernel
theorem dX8_bright_1 : decode cX8_bright 1 = .ok (.invokestatic 119, 3) := by decide +kernel
theorem dX8_bright_4 : decode cX8_bright 4 = .ok (.ifCond .ne 6, 3) := by decide +kernel
theorem dX8_bright_7 : decode cX8_bright 7 = .ok (.bipush (-2), 2) := by decide +kernel
theorem dX8_bright_9 : decode cX8_bright 9 = .ok (.ireturn, 1) := by decide +kernel
theorem dX8_bright_10 : decode cX8_bright 10 = .ok (.iload_n 2, 1) := by decide +kernel
theorem dX8_bright_11 : decode cX8_bright 11 = .ok (.iconst 0, 1) := by decide +kernel
theorem dX8_bright_12 : decode cX8_bright 12 = .ok (.sipush 1000, 3) := by decide +kernel
theorem dX8_bright_15 : decode cX8_bright 15 = .ok (.invokestatic 66, 3) := by decide +kernel
theorem dX8_bright_18 : decode cX8_bright 18 = .ok (.ifCond .ne 6, 3) := by decide +kernel
theorem dX8_bright_21 : decode cX8_bright 21 = .ok (.bipush (-3), 2) := by decide +kernel
theorem dX8_bright_23 : decode cX8_bright 23 = .ok (.ireturn, 1) := by decide +kernel
theorem dX8_bright_24 : decode cX8_bright 24 = .ok (.aload_n 0, 1) := by decide +kernel
theorem dX8_bright_25 : decode cX8_bright 25 = .ok (.getfield 29, 3) := by decide +kernel
theorem dX8_bright_28 : decode cX8_bright 28 = .ok (.iload_n 1, 1) := by decide +kernel
theorem dX8_bright_29 : decode cX8_bright 29 = .ok (.iload_n 2, 1) := by decide +kernel
theorem dX8_bright_30 : decode cX8_bright 30 = .ok (.iastore, 1) := by decide +kernel
theorem dX8_bright_31 : decode cX8_bright 31 = .ok (.aload_n 0, 1) := by decide +kernel
theorem dX8_bright_32 : decode cX8_bright 32 = .ok (.getfield 35, 3) := by decide +kernel
theorem dX8_bright_35 : decode cX8_bright 35 = .ok (.iload_n 1, 1) := by decide +kernel
theorem dX8_bright_36 : decode cX8_bright 36 = .ok (.iconst 0, 1) := by decide +kernel
theorem dX8_bright_37 : decode cX8_bright 37 = .ok (.iastore, 1) := by decide +kernel
theorem dX8_bright_38 : decode cX8_bright 38 = .ok (.aload_n 0, 1) := by decide +kernel
theorem dX8_bright_39 : decode cX8_bright 39 = .ok (.getfield 38, 3) := by decide +kernel
theorem dX8_bright_42 : decode cX8_bright 42 = .ok (.iload_n 1, 1) := by decide +kernel
theorem dX8_bright_43 : decode cX8_bright 43 = .ok (.iconst 0, 1) := by decide +kernel
theorem dX8_bright_44 : decode cX8_bright 44 = .ok (.bastore, 1) := by decide +kernel
theorem dX8_bright_45 : decode cX8_bright 45 = .ok (.iconst 1, 1) := by decide +kernel
theorem dX8_bright_46 : decode cX8_bright 46 = .ok (.ireturn, 1) := by decide +kernel
theorem dX8_sun_0 : decode cX8_sun 0 = .ok (.iload_n 1, 1) := by decide +kernel
theorem dX8_sun_1 : decode cX8_sun 1 = .ok (.invokestatic 119, 3) := by decide +kernel
theorem dX8_sun_4 : decode cX8_sun 4 = .ok (.ifCond .eq 13, 3) := by decide +kernel
theorem dX8_sun_7 : decode cX8_sun 7 = .ok (.iload_n 2, 1) := by decide +kernel
theorem dX8_sun_8 : decode cX8_sun 8 = .ok (.iconst 0, 1) := by decide +kernel
theorem dX8_sun_9 : decode cX8_sun 9 = .ok (.bipush 15, 2) := by decide +kernel
theorem dX8_sun_11 : decode cX8_sun 11 = .ok (.invokestatic 66, 3) := by decide +kernel
theorem dX8_sun_14 : decode cX8_sun 14 = .ok (.ifCond .ne 6, 3) := by decide +kernel
theorem dX8_sun_17 : decode cX8_sun 17 = .ok (.bipush (-2), 2) := by decide +kernel
theorem dX8_sun_19 : decode cX8_sun 19 = .ok (.ireturn, 1) := by decide +kernel
theorem dX8_sun_20 : decode cX8_sun 20 = .ok (.iload_n 3, 1) := by decide +kernel
theorem dX8_sun_21 : decode cX8_sun 21 = .ok (.iconst 0, 1) := by decide +kernel
theorem dX8_sun_22 : decode cX8_sun 22 = .ok (.sipush 1000, 3) := by decide +kernel
theorem dX8_sun_25 : decode cX8_sun 25 = .ok (.invokestatic 66, 3) := by decide +kernel
theorem dX8_sun_28 : decode cX8_sun 28 = .ok (.ifCond .ne 6, 3) := by decide +kernel
theorem dX8_sun_31 : decode cX8_sun 31 = .ok (.bipush (-3), 2) := by decide +kernel
theorem dX8_sun_33 : decode cX8_sun 33 = .ok (.ireturn, 1) := by decide +kernel
theorem dX8_sun_34 : decode cX8_sun 34 = .ok (.aload_n 0, 1) := by decide +kernel
theorem dX8_sun_35 : decode cX8_sun 35 = .ok (.getfield 38, 3) := by decide +kernel
theorem dX8_sun_38 : decode cX8_sun 38 = .ok (.iload_n 1, 1) := by decide +kernel
theorem dX8_sun_39 : decode cX8_sun 39 = .ok (.baload, 1) := by decide +kernel
theorem dX8_sun_40 : decode cX8_sun 40 = .ok (.ifCond .eq 6, 3) := by decide +kernel
theorem dX8_sun_43 : decode cX8_sun 43 = .ok (.bipush (-4), 2) := by decide +kernel
theorem dX8_sun_45 : decode cX8_sun 45 = .ok (.ireturn, 1) := by decide +kernel
theorem dX8_sun_46 : decode cX8_sun 46 = .ok (.aload_n 0, 1) := by decide +kernel
theorem dX8_sun_47 : decode cX8_sun 47 = .ok (.getfield 32, 3) := by decide +kernel
theorem dX8_sun_50 : decode cX8_sun 50 = .ok (.iload_n 1, 1) := by decide +kernel
theorem dX8_sun_51 : decode cX8_sun 51 = .ok (.iload_n 2, 1) := by decide +kernel
theorem dX8_sun_52 : decode cX8_sun 52 = .ok (.iastore, 1) := by decide +kernel
theorem dX8_sun_53 : decode cX8_sun 53 = .ok (.aload_n 0, 1) := by decide +kernel
theorem dX8_sun_54 : decode cX8_sun 54 = .ok (.getfield 35, 3) := by decide +kernel
theorem dX8_sun_57 : decode cX8_sun 57 = .ok (.iload_n 1, 1) := by decide +kernel
theorem dX8_sun_58 : decode cX8_sun 58 = .ok (.iload_n 3, 1) := by decide +kernel
theorem dX8_sun_59 : decode cX8_sun 59 = .ok (.iastore, 1) := by decide +kernel
theorem dX8_sun_60 : decode cX8_sun 60 = .ok (.iconst 1, 1) := by decide +kernel
theorem dX8_sun_61 : decode cX8_sun 61 = .ok (.ireturn, 1) := by decide +kernel
theorem dX8_lose_0 : decode cX8_lose 0 = .ok (.iload_n 1, 1) := by decide +kernel
theorem dX8_lose_1 : decode cX8_lose 1 = .ok (.invokestatic 119, 3) := by decide +kernel
theorem dX8_lose_4 : decode cX8_lose 4 = .ok (.ifCond .ne 6, 3) := by decide +kernel
theorem dX8_lose_7 : decode cX8_lose 7 = .ok (.bipush (-2), 2) := by decide +kernel
theorem dX8_lose_9 : decode cX8_lose 9 = .ok (.ireturn, 1) := by decide +kernel
theorem dX8_lose_10 : decode cX8_lose 10 = .ok (.aload_n 0, 1) := by decide +kernel
theorem dX8_lose_11 : decode cX8_lose 11 = .ok (.getfield 38, 3) := by decide +kernel
theorem dX8_lose_14 : decode cX8_lose 14 = .ok (.iload_n 1, 1) := by decide +kernel
theorem dX8_lose_15 : decode cX8_lose 15 = .ok (.baload, 1) := by decide +kernel
theorem dX8_lose_16 : decode cX8_lose 16 = .ok (.ifCond .eq 6, 3) := by decide +kernel
theorem dX8_lose_19 : decode cX8_lose 19 = .ok (.bipush (-4), 2) := by decide +kernel
theorem dX8_lose_21 : decode cX8_lose 21 = .ok (.ireturn, 1) := by decide +kernel
theorem dX8_lose_22 : decode cX8_lose 22 = .ok (.aload_n 0, 1) := by decide +kernel
theorem dX8_lose_23 : decode cX8_lose 23 = .ok (.getfield 38, 3) := by decide +kernel
theorem dX8_lose_26 : decode cX8_lose 26 = .ok (.iload_n 1, 1) := by decide +kernel
theorem dX8_lose_27 : decode cX8_lose 27 = .ok (.iconst 1, 1) := by decide +kernel
theorem dX8_lose_28 : decode cX8_lose 28 = .ok (.bastore, 1) := by decide +kernel
theorem dX8_lose_29 : decode cX8_lose 29 = .ok (.aload_n 0, 1) := by decide +kernel
theorem dX8_lose_30 : decode cX8_lose 30 = .ok (.getfield 29, 3) := by decide +kernel
theorem dX8_lose_33 : decode cX8_lose 33 = .ok (.iload_n 1, 1) := by decide +kernel
theorem dX8_lose_34 : decode cX8_lose 34 = .ok (.iconst 0, 1) := by decide +kernel
theorem dX8_lose_35 : decode cX8_lose 35 = .ok (.iastore, 1) := by decide +kernel
theorem dX8_lose_36 : decode cX8_lose 36 = .ok (.aload_n 0, 1) := by decide +kernel
theorem dX8_lose_37 : decode cX8_lose 37 = .ok (.getfield 35, 3) := by decide +kernel
theorem dX8_lose_40 : decode cX8_lose 40 = .ok (.iload_n 1, 1) := by decide +kernel
theorem dX8_lose_41 : decode cX8_lose 41 = .ok (.iconst 0, 1) := by decide +kernel
theorem dX8_lose_42 : decode cX8_lose 42 = .ok (.iastore, 1) := by decide +kernel
theorem dX8_lose_43 : decode cX8_lose 43 = .ok (.iconst 1, 1) := by decide +kernel
theorem dX8_lose_44 : decode cX8_lose 44 = .ok (.ireturn, 1) := by decide +kernel
theorem dX8_set_0 : decode cX8_set 0 = .ok (.iload_n 1, 1) := by decide +kernel
theorem dX8_set_1 : decode cX8_set 1 = .ok (.iconst 0, 1) := by decide +kernel
theorem dX8_set_2 : decode cX8_set 2 = .ok (.iconst 1, 1) := by decide +kernel
theorem dX8_set_3 : decode cX8_set 3 = .ok (.invokestatic 66, 3) := by decide +kernel
theorem dX8_set_6 : decode cX8_set 6 = .ok (.ifCond .eq 24, 3) := by decide +kernel
theorem dX8_set_9 : decode cX8_set 9 = .ok (.iload_n 2, 1) := by decide +kernel
theorem dX8_set_10 : decode cX8_set 10 = .ok (.iconst 0, 1) := by decide +kernel
theorem dX8_set_11 : decode cX8_set 11 = .ok (.iload_n 1, 1) := by decide +kernel
theorem dX8_set_12 : decode cX8_set 12 = .ok (.ifCond .ne 9, 3) := by decide +kernel
theorem dX8_set_15 : decode cX8_set 15 = .ok (.sipush 1000, 3) := by decide +kernel
theorem dX8_set_18 : decode cX8_set 18 = .ok (.goto 6, 3) := by decide +kernel
theorem dX8_set_21 : decode cX8_set 21 = .ok (.sipush 2000, 3) := by decide +kernel
theorem dX8_set_24 : decode cX8_set 24 = .ok (.invokestatic 66, 3) := by decide +kernel
theorem dX8_set_27 : decode cX8_set 27 = .ok (.ifCond .ne 6, 3) := by decide +kernel
theorem dX8_set_30 : decode cX8_set 30 = .ok (.bipush (-3), 2) := by decide +kernel
theorem dX8_set_32 : decode cX8_set 32 = .ok (.ireturn, 1) := by decide +kernel
theorem dX8_set_33 : decode cX8_set 33 = .ok (.iload_n 1, 1) := by decide +kernel
theorem dX8_set_34 : decode cX8_set 34 = .ok (.ifCond .ne 10, 3) := by decide +kernel
theorem dX8_set_37 : decode cX8_set 37 = .ok (.aload_n 0, 1) := by decide +kernel
theorem dX8_set_38 : decode cX8_set 38 = .ok (.getfield 41, 3) := by decide +kernel
theorem dX8_set_41 : decode cX8_set 41 = .ok (.goto 7, 3) := by decide +kernel
theorem dX8_set_44 : decode cX8_set 44 = .ok (.aload_n 0, 1) := by decide +kernel
theorem dX8_set_45 : decode cX8_set 45 = .ok (.getfield 45, 3) := by decide +kernel
theorem dX8_set_48 : decode cX8_set 48 = .ok (.istore_n 3, 1) := by decide +kernel
theorem dX8_set_49 : decode cX8_set 49 = .ok (.aload_n 0, 1) := by decide +kernel
theorem dX8_set_50 : decode cX8_set 50 = .ok (.iload_n 1, 1) := by decide +kernel
theorem dX8_set_51 : decode cX8_set 51 = .ok (.ifCond .ne 7, 3) := by decide +kernel
theorem dX8_set_54 : decode cX8_set 54 = .ok (.iload_n 2, 1) := by decide +kernel
theorem dX8_set_55 : decode cX8_set 55 = .ok (.goto 7, 3) := by decide +kernel
theorem dX8_set_58 : decode cX8_set 58 = .ok (.aload_n 0, 1) := by decide +kernel
theorem dX8_set_59 : decode cX8_set 59 = .ok (.getfield 41, 3) := by decide +kernel
theorem dX8_set_62 : decode cX8_set 62 = .ok (.putfield 41, 3) := by decide +kernel
theorem dX8_set_65 : decode cX8_set 65 = .ok (.aload_n 0, 1) := by decide +kernel
theorem dX8_set_66 : decode cX8_set 66 = .ok (.iload_n 1, 1) := by decide +kernel
theorem dX8_set_67 : decode cX8_set 67 = .ok (.iconst 1, 1) := by decide +kernel
theorem dX8_set_68 : decode cX8_set 68 = .ok (.if_icmp .ne 7, 3) := by decide +kernel
theorem dX8_set_71 : decode cX8_set 71 = .ok (.iload_n 2, 1) := by decide +kernel
theorem dX8_set_72 : decode cX8_set 72 = .ok (.goto 7, 3) := by decide +kernel
theorem dX8_set_75 : decode cX8_set 75 = .ok (.aload_n 0, 1) := by decide +kernel
theorem dX8_set_76 : decode cX8_set 76 = .ok (.getfield 45, 3) := by decide +kernel
theorem dX8_set_79 : decode cX8_set 79 = .ok (.putfield 45, 3) := by decide +kernel
theorem dX8_set_82 : decode cX8_set 82 = .ok (.iload_n 3, 1) := by decide +kernel
theorem dX8_set_83 : decode cX8_set 83 = .ok (.ireturn, 1) := by decide +kernel
theorem dX8_law_0 : decode cX8_law 0 = .ok (.iload_n 1, 1) := by decide +kernel
theorem dX8_law_1 : decode cX8_law 1 = .ok (.iconst 0, 1) := by decide +kernel
theorem dX8_law_2 : decode cX8_law 2 = .ok (.sipush 1000, 3) := by decide +kernel
theorem dX8_law_5 : decode cX8_law 5 = .ok (.invokestatic 66, 3) := by decide +kernel
theorem dX8_law_8 : decode cX8_law 8 = .ok (.ifCond .eq 12, 3) := by decide +kernel
theorem dX8_law_11 : decode cX8_law 11 = .ok (.iload_n 2, 1) := by decide +kernel
theorem dX8_law_12 : decode cX8_law 12 = .ok (.iconst 0, 1) := by decide +kernel
theorem dX8_law_13 : decode cX8_law 13 = .ok (.iload_n 1, 1) := by decide +kernel
theorem dX8_law_14 : decode cX8_law 14 = .ok (.invokestatic 66, 3) := by decide +kernel
theorem dX8_law_17 : decode cX8_law 17 = .ok (.ifCond .ne 6, 3) := by decide +kernel
theorem dX8_law_20 : decode cX8_law 20 = .ok (.bipush (-3), 2) := by decide +kernel
theorem dX8_law_22 : decode cX8_law 22 = .ok (.ireturn, 1) := by decide +kernel
theorem dX8_law_23 : decode cX8_law 23 = .ok (.aload_n 0, 1) := by decide +kernel
theorem dX8_law_24 : decode cX8_law 24 = .ok (.iload_n 1, 1) := by decide +kernel
theorem dX8_law_25 : decode cX8_law 25 = .ok (.putfield 48, 3) := by decide +kernel
theorem dX8_law_28 : decode cX8_law 28 = .ok (.aload_n 0, 1) := by decide +kernel
theorem dX8_law_29 : decode cX8_law 29 = .ok (.iload_n 2, 1) := by decide +kernel
theorem dX8_law_30 : decode cX8_law 30 = .ok (.putfield 51, 3) := by decide +kernel
theorem dX8_law_33 : decode cX8_law 33 = .ok (.iconst 1, 1) := by decide +kernel
theorem dX8_law_34 : decode cX8_law 34 = .ok (.ireturn, 1) := by decide +kernel
theorem dX8_allUp_0 : decode cX8_allUp 0 = .ok (.iconst 0, 1) := by decide +kernel
theorem dX8_allUp_1 : decode cX8_allUp 1 = .ok (.istore_n 1, 1) := by decide +kernel
theorem dX8_allUp_2 : decode cX8_allUp 2 = .ok (.iload_n 1, 1) := by decide +kernel
theorem dX8_allUp_3 : decode cX8_allUp 3 = .ok (.bipush 64, 2) := by decide +kernel
theorem dX8_allUp_5 : decode cX8_allUp 5 = .ok (.if_icmp .ge 16, 3) := by decide +kernel
theorem dX8_allUp_8 : decode cX8_allUp 8 = .ok (.aload_n 0, 1) := by decide +kernel
theorem dX8_allUp_9 : decode cX8_allUp 9 = .ok (.getfield 20, 3) := by decide +kernel
theorem dX8_allUp_12 : decode cX8_allUp 12 = .ok (.iload_n 1, 1) := by decide +kernel
theorem dX8_allUp_13 : decode cX8_allUp 13 = .ok (.iconst 0, 1) := by decide +kernel
theorem dX8_allUp_14 : decode cX8_allUp 14 = .ok (.bastore, 1) := by decide +kernel
theorem dX8_allUp_15 : decode cX8_allUp 15 = .ok (.iinc 1 1, 3) := by decide +kernel
theorem dX8_allUp_18 : decode cX8_allUp 18 = .ok (.goto (-16), 3) := by decide +kernel
theorem dX8_allUp_21 : decode cX8_allUp 21 = .ok (.return_, 1) := by decide +kernel
theorem dX8_lookAt_0 : decode cX8_lookAt 0 = .ok (.aload_n 0, 1) := by decide +kernel
theorem dX8_lookAt_1 : decode cX8_lookAt 1 = .ok (.getfield 38, 3) := by decide +kernel
theorem dX8_lookAt_4 : decode cX8_lookAt 4 = .ok (.iload_n 1, 1) := by decide +kernel
theorem dX8_lookAt_5 : decode cX8_lookAt 5 = .ok (.baload, 1) := by decide +kernel
theorem dX8_lookAt_6 : decode cX8_lookAt 6 = .ok (.ifCond .eq 4, 3) := by decide +kernel
theorem dX8_lookAt_9 : decode cX8_lookAt 9 = .ok (.return_, 1) := by decide +kernel
theorem dX8_lookAt_10 : decode cX8_lookAt 10 = .ok (.iconst 0, 1) := by decide +kernel
theorem dX8_lookAt_11 : decode cX8_lookAt 11 = .ok (.istore_n 2, 1) := by decide +kernel
theorem dX8_lookAt_12 : decode cX8_lookAt 12 = .ok (.iload_n 2, 1) := by decide +kernel
theorem dX8_lookAt_13 : decode cX8_lookAt 13 = .ok (.bipush 64, 2) := by decide +kernel
theorem dX8_lookAt_15 : decode cX8_lookAt 15 = .ok (.if_icmp .ge 209, 3) := by decide +kernel
theorem dX8_lookAt_18 : decode cX8_lookAt 18 = .ok (.aload_n 0, 1) := by decide +kernel
theorem dX8_lookAt_19 : decode cX8_lookAt 19 = .ok (.getfield 16, 3) := by decide +kernel
theorem dX8_lookAt_22 : decode cX8_lookAt 22 = .ok (.iload_n 2, 1) := by decide +kernel
theorem dX8_lookAt_23 : decode cX8_lookAt 23 = .ok (.baload, 1) := by decide +kernel
theorem dX8_lookAt_24 : decode cX8_lookAt 24 = .ok (.ifCond .eq 194, 3) := by decide +kernel
theorem dX8_lookAt_27 : decode cX8_lookAt 27 = .ok (.ldc2_w 122, 3) := by decide +kernel
theorem dX8_lookAt_30 : decode cX8_lookAt 30 = .ok (.lstore_n 3, 1) := by decide +kernel
theorem dX8_lookAt_31 : decode cX8_lookAt 31 = .ok (.iconst 0, 1) := by decide +kernel
theorem dX8_lookAt_32 : decode cX8_lookAt 32 = .ok (.istore 5, 2) := by decide +kernel
theorem dX8_lookAt_34 : decode cX8_lookAt 34 = .ok (.iload 5, 2) := by decide +kernel
theorem dX8_lookAt_36 : decode cX8_lookAt 36 = .ok (.aload_n 0, 1) := by decide +kernel
theorem dX8_lookAt_37 : decode cX8_lookAt 37 = .ok (.getfield 70, 3) := by decide +kernel
theorem dX8_lookAt_40 : decode cX8_lookAt 40 = .ok (.if_icmp .ge 90, 3) := by decide +kernel
theorem dX8_lookAt_43 : decode cX8_lookAt 43 = .ok (.aload_n 0, 1) := by decide +kernel
theorem dX8_lookAt_44 : decode cX8_lookAt 44 = .ok (.getfield 35, 3) := by decide +kernel
theorem dX8_lookAt_47 : decode cX8_lookAt 47 = .ok (.iload_n 1, 1) := by decide +kernel
theorem dX8_lookAt_48 : decode cX8_lookAt 48 = .ok (.iaload, 1) := by decide +kernel
theorem dX8_lookAt_49 : decode cX8_lookAt 49 = .ok (.ifCond .le 81, 3) := by decide +kernel
theorem dX8_lookAt_52 : decode cX8_lookAt 52 = .ok (.aload_n 0, 1) := by decide +kernel
theorem dX8_lookAt_53 : decode cX8_lookAt 53 = .ok (.getfield 35, 3) := by decide +kernel
theorem dX8_lookAt_56 : decode cX8_lookAt 56 = .ok (.iload_n 1, 1) := by decide +kernel
theorem dX8_lookAt_57 : decode cX8_lookAt 57 = .ok (.iaload, 1) := by decide +kernel
theorem dX8_lookAt_58 : decode cX8_lookAt 58 = .ok (.i2l, 1) := by decide +kernel
theorem dX8_lookAt_59 : decode cX8_lookAt 59 = .ok (.aload_n 0, 1) := by decide +kernel
theorem dX8_lookAt_60 : decode cX8_lookAt 60 = .ok (.iload 5, 2) := by decide +kernel
theorem dX8_lookAt_62 : decode cX8_lookAt 62 = .ok (.aload_n 0, 1) := by decide +kernel
theorem dX8_lookAt_63 : decode cX8_lookAt 63 = .ok (.getfield 32, 3) := by decide +kernel
theorem dX8_lookAt_66 : decode cX8_lookAt 66 = .ok (.iload_n 1, 1) := by decide +kernel
theorem dX8_lookAt_67 : decode cX8_lookAt 67 = .ok (.iaload, 1) := by decide +kernel
theorem dX8_lookAt_68 : decode cX8_lookAt 68 = .ok (.iconst 1, 1) := by decide +kernel
theorem dX8_lookAt_69 : decode cX8_lookAt 69 = .ok (.invokevirtual 104, 3) := by decide +kernel
theorem dX8_lookAt_72 : decode cX8_lookAt 72 = .ok (.lmul, 1) := by decide +kernel
theorem dX8_lookAt_73 : decode cX8_lookAt 73 = .ok (.lstore 6, 2) := by decide +kernel
theorem dX8_lookAt_75 : decode cX8_lookAt 75 = .ok (.aload_n 0, 1) := by decide +kernel
theorem dX8_lookAt_76 : decode cX8_lookAt 76 = .ok (.iload 5, 2) := by decide +kernel
theorem dX8_lookAt_78 : decode cX8_lookAt 78 = .ok (.aload_n 0, 1) := by decide +kernel
theorem dX8_lookAt_79 : decode cX8_lookAt 79 = .ok (.getfield 32, 3) := by decide +kernel
theorem dX8_lookAt_82 : decode cX8_lookAt 82 = .ok (.iload_n 1, 1) := by decide +kernel
theorem dX8_lookAt_83 : decode cX8_lookAt 83 = .ok (.iaload, 1) := by decide +kernel
theorem dX8_lookAt_84 : decode cX8_lookAt 84 = .ok (.invokevirtual 97, 3) := by decide +kernel
theorem dX8_lookAt_87 : decode cX8_lookAt 87 = .ok (.ifCond .eq 15, 3) := by decide +kernel
theorem dX8_lookAt_90 : decode cX8_lookAt 90 = .ok (.aload_n 0, 1) := by decide +kernel
theorem dX8_lookAt_91 : decode cX8_lookAt 91 = .ok (.iload_n 2, 1) := by decide +kernel
theorem dX8_lookAt_92 : decode cX8_lookAt 92 = .ok (.invokevirtual 124, 3) := by decide +kernel
theorem dX8_lookAt_95 : decode cX8_lookAt 95 = .ok (.ifCond .eq 7, 3) := by decide +kernel
theorem dX8_lookAt_98 : decode cX8_lookAt 98 = .ok (.iconst 1, 1) := by decide +kernel
theorem dX8_lookAt_99 : decode cX8_lookAt 99 = .ok (.goto 4, 3) := by decide +kernel
theorem dX8_lookAt_102 : decode cX8_lookAt 102 = .ok (.iconst 0, 1) := by decide +kernel
theorem dX8_lookAt_103 : decode cX8_lookAt 103 = .ok (.istore 8, 2) := by decide +kernel
theorem dX8_lookAt_105 : decode cX8_lookAt 105 = .ok (.iload 8, 2) := by decide +kernel
theorem dX8_lookAt_107 : decode cX8_lookAt 107 = .ok (.ifCond .eq 15, 3) := by decide +kernel
theorem dX8_lookAt_110 : decode cX8_lookAt 110 = .ok (.lload 6, 2) := by decide +kernel
theorem dX8_lookAt_112 : decode cX8_lookAt 112 = .ok (.lload_n 3, 1) := by decide +kernel
theorem dX8_lookAt_113 : decode cX8_lookAt 113 = .ok (.lcmp, 1) := by decide +kernel
theorem dX8_lookAt_114 : decode cX8_lookAt 114 = .ok (.ifCond .le 8, 3) := by decide +kernel
theorem dX8_lookAt_117 : decode cX8_lookAt 117 = .ok (.lload 6, 2) := by decide +kernel
theorem dX8_lookAt_119 : decode cX8_lookAt 119 = .ok (.goto 4, 3) := by decide +kernel
theorem dX8_lookAt_122 : decode cX8_lookAt 122 = .ok (.lload_n 3, 1) := by decide +kernel
theorem dX8_lookAt_123 : decode cX8_lookAt 123 = .ok (.lstore_n 3, 1) := by decide +kernel
theorem dX8_lookAt_124 : decode cX8_lookAt 124 = .ok (.iinc 5 1, 3) := by decide +kernel
theorem dX8_lookAt_127 : decode cX8_lookAt 127 = .ok (.goto (-93), 3) := by decide +kernel
theorem dX8_lookAt_130 : decode cX8_lookAt 130 = .ok (.aload_n 0, 1) := by decide +kernel
theorem dX8_lookAt_131 : decode cX8_lookAt 131 = .ok (.getfield 20, 3) := by decide +kernel
theorem dX8_lookAt_134 : decode cX8_lookAt 134 = .ok (.iload_n 2, 1) := by decide +kernel
theorem dX8_lookAt_135 : decode cX8_lookAt 135 = .ok (.aload_n 0, 1) := by decide +kernel
theorem dX8_lookAt_136 : decode cX8_lookAt 136 = .ok (.getfield 20, 3) := by decide +kernel
theorem dX8_lookAt_139 : decode cX8_lookAt 139 = .ok (.iload_n 2, 1) := by decide +kernel
theorem dX8_lookAt_140 : decode cX8_lookAt 140 = .ok (.baload, 1) := by decide +kernel
theorem dX8_lookAt_141 : decode cX8_lookAt 141 = .ok (.ifCond .eq 25, 3) := by decide +kernel
theorem dX8_lookAt_144 : decode cX8_lookAt 144 = .ok (.lload_n 3, 1) := by decide +kernel
theorem dX8_lookAt_145 : decode cX8_lookAt 145 = .ok (.aload_n 0, 1) := by decide +kernel
theorem dX8_lookAt_146 : decode cX8_lookAt 146 = .ok (.getfield 51, 3) := by decide +kernel
theorem dX8_lookAt_149 : decode cX8_lookAt 149 = .ok (.i2l, 1) := by decide +kernel
theorem dX8_lookAt_150 : decode cX8_lookAt 150 = .ok (.ldc2_w 100, 3) := by decide +kernel
theorem dX8_lookAt_153 : decode cX8_lookAt 153 = .ok (.lmul, 1) := by decide +kernel
theorem dX8_lookAt_154 : decode cX8_lookAt 154 = .ok (.lcmp, 1) := by decide +kernel
theorem dX8_lookAt_155 : decode cX8_lookAt 155 = .ok (.ifCond .lt 7, 3) := by decide +kernel
theorem dX8_lookAt_158 : decode cX8_lookAt 158 = .ok (.iconst 1, 1) := by decide +kernel
theorem dX8_lookAt_159 : decode cX8_lookAt 159 = .ok (.goto 32, 3) := by decide +kernel
theorem dX8_lookAt_162 : decode cX8_lookAt 162 = .ok (.iconst 0, 1) := by decide +kernel
theorem dX8_lookAt_163 : decode cX8_lookAt 163 = .ok (.goto 28, 3) := by decide +kernel
theorem dX8_lookAt_166 : decode cX8_lookAt 166 = .ok (.lload_n 3, 1) := by decide +kernel
theorem dX8_lookAt_167 : decode cX8_lookAt 167 = .ok (.lconst 0, 1) := by decide +kernel
theorem dX8_lookAt_168 : decode cX8_lookAt 168 = .ok (.lcmp, 1) := by decide +kernel
theorem dX8_lookAt_169 : decode cX8_lookAt 169 = .ok (.ifCond .lt 21, 3) := by decide +kernel
theorem dX8_lookAt_172 : decode cX8_lookAt 172 = .ok (.lload_n 3, 1) := by decide +kernel
theorem dX8_lookAt_173 : decode cX8_lookAt 173 = .ok (.aload_n 0, 1) := by decide +kernel
theorem dX8_lookAt_174 : decode cX8_lookAt 174 = .ok (.getfield 48, 3) := by decide +kernel
theorem dX8_lookAt_177 : decode cX8_lookAt 177 = .ok (.i2l, 1) := by decide +kernel
theorem dX8_lookAt_178 : decode cX8_lookAt 178 = .ok (.ldc2_w 100, 3) := by decide +kernel
theorem dX8_lookAt_181 : decode cX8_lookAt 181 = .ok (.lmul, 1) := by decide +kernel
theorem dX8_lookAt_182 : decode cX8_lookAt 182 = .ok (.lcmp, 1) := by decide +kernel
theorem dX8_lookAt_183 : decode cX8_lookAt 183 = .ok (.ifCond .lt 7, 3) := by decide +kernel
theorem dX8_lookAt_186 : decode cX8_lookAt 186 = .ok (.iconst 1, 1) := by decide +kernel
theorem dX8_lookAt_187 : decode cX8_lookAt 187 = .ok (.goto 4, 3) := by decide +kernel
theorem dX8_lookAt_190 : decode cX8_lookAt 190 = .ok (.iconst 0, 1) := by decide +kernel
theorem dX8_lookAt_191 : decode cX8_lookAt 191 = .ok (.bastore, 1) := by decide +kernel
theorem dX8_lookAt_192 : decode cX8_lookAt 192 = .ok (.aload_n 0, 1) := by decide +kernel
theorem dX8_lookAt_193 : decode cX8_lookAt 193 = .ok (.getfield 20, 3) := by decide +kernel
theorem dX8_lookAt_196 : decode cX8_lookAt 196 = .ok (.iload_n 2, 1) := by decide +kernel
theorem dX8_lookAt_197 : decode cX8_lookAt 197 = .ok (.aload_n 0, 1) := by decide +kernel
theorem dX8_lookAt_198 : decode cX8_lookAt 198 = .ok (.getfield 20, 3) := by decide +kernel
theorem dX8_lookAt_201 : decode cX8_lookAt 201 = .ok (.iload_n 2, 1) := by decide +kernel
theorem dX8_lookAt_202 : decode cX8_lookAt 202 = .ok (.baload, 1) := by decide +kernel
theorem dX8_lookAt_203 : decode cX8_lookAt 203 = .ok (.ifCond .eq 13, 3) := by decide +kernel
theorem dX8_lookAt_206 : decode cX8_lookAt 206 = .ok (.lload_n 3, 1) := by decide +kernel
theorem dX8_lookAt_207 : decode cX8_lookAt 207 = .ok (.lconst 0, 1) := by decide +kernel
theorem dX8_lookAt_208 : decode cX8_lookAt 208 = .ok (.lcmp, 1) := by decide +kernel
theorem dX8_lookAt_209 : decode cX8_lookAt 209 = .ok (.ifCond .lt 7, 3) := by decide +kernel
theorem dX8_lookAt_212 : decode cX8_lookAt 212 = .ok (.iconst 1, 1) := by decide +kernel
theorem dX8_lookAt_213 : decode cX8_lookAt 213 = .ok (.goto 4, 3) := by decide +kernel
theorem dX8_lookAt_216 : decode cX8_lookAt 216 = .ok (.iconst 0, 1) := by decide +kernel
theorem dX8_lookAt_217 : decode cX8_lookAt 217 = .ok (.bastore, 1) := by decide +kernel
theorem dX8_lookAt_218 : decode cX8_lookAt 218 = .ok (.iinc 2 1, 3) := by decide +kernel
theorem dX8_lookAt_221 : decode cX8_lookAt 221 = .ok (.goto (-209), 3) := by decide +kernel
theorem dX8_lookAt_224 : decode cX8_lookAt 224 = .ok (.return_, 1) := by decide +kernel
theorem dX8_hasWindow_0 : decode cX8_hasWindow 0 = .ok (.iconst 0, 1) := by decide +kernel
theorem dX8_hasWindow_1 : decode cX8_hasWindow 1 = .ok (.istore_n 2, 1) := by decide +kernel
theorem dX8_hasWindow_2 : decode cX8_hasWindow 2 = .ok (.iconst 0, 1) := by decide +kernel
theorem dX8_hasWindow_3 : decode cX8_hasWindow 3 = .ok (.istore_n 3, 1) := by decide +kernel
theorem dX8_hasWindow_4 : decode cX8_hasWindow 4 = .ok (.iload_n 3, 1) := by decide +kernel
theorem dX8_hasWindow_5 : decode cX8_hasWindow 5 = .ok (.aload_n 0, 1) := by decide +kernel
theorem dX8_hasWindow_6 : decode cX8_hasWindow 6 = .ok (.getfield 91, 3) := by decide +kernel
theorem dX8_hasWindow_9 : decode cX8_hasWindow 9 = .ok (.if_icmp .ge 29, 3) := by decide +kernel
theorem dX8_hasWindow_12 : decode cX8_hasWindow 12 = .ok (.iload_n 2, 1) := by decide +kernel
theorem dX8_hasWindow_13 : decode cX8_hasWindow 13 = .ok (.ifCond .ne 13, 3) := by decide +kernel
theorem dX8_hasWindow_16 : decode cX8_hasWindow 16 = .ok (.aload_n 0, 1) := by decide +kernel
theorem dX8_hasWindow_17 : decode cX8_hasWindow 17 = .ok (.getfield 63, 3) := by decide +kernel
theorem dX8_hasWindow_20 : decode cX8_hasWindow 20 = .ok (.iload_n 3, 1) := by decide +kernel
theorem dX8_hasWindow_21 : decode cX8_hasWindow 21 = .ok (.iaload, 1) := by decide +kernel
theorem dX8_hasWindow_22 : decode cX8_hasWindow 22 = .ok (.iload_n 1, 1) := by decide +kernel
theorem dX8_hasWindow_23 : decode cX8_hasWindow 23 = .ok (.if_icmp .ne 7, 3) := by decide +kernel
theorem dX8_hasWindow_26 : decode cX8_hasWindow 26 = .ok (.iconst 1, 1) := by decide +kernel
theorem dX8_hasWindow_27 : decode cX8_hasWindow 27 = .ok (.goto 4, 3) := by decide +kernel
theorem dX8_hasWindow_30 : decode cX8_hasWindow 30 = .ok (.iconst 0, 1) := by decide +kernel
theorem dX8_hasWindow_31 : decode cX8_hasWindow 31 = .ok (.istore_n 2, 1) := by decide +kernel
theorem dX8_hasWindow_32 : decode cX8_hasWindow 32 = .ok (.iinc 3 1, 3) := by decide +kernel
theorem dX8_hasWindow_35 : decode cX8_hasWindow 35 = .ok (.goto (-31), 3) := by decide +kernel
theorem dX8_hasWindow_38 : decode cX8_hasWindow 38 = .ok (.iload_n 2, 1) := by decide +kernel
theorem dX8_hasWindow_39 : decode cX8_hasWindow 39 = .ok (.ireturn, 1) := by decide +kernel
theorem dX8_goTo_0 : decode cX8_goTo 0 = .ok (.aload_n 0, 1) := by decide +kernel
theorem dX8_goTo_1 : decode cX8_goTo 1 = .ok (.invokevirtual 127, 3) := by decide +kernel
theorem dX8_goTo_4 : decode cX8_goTo 4 = .ok (.iconst 0, 1) := by decide +kernel
theorem dX8_goTo_5 : decode cX8_goTo 5 = .ok (.istore_n 2, 1) := by decide +kernel
theorem dX8_goTo_6 : decode cX8_goTo 6 = .ok (.iload_n 2, 1) := by decide +kernel
theorem dX8_goTo_7 : decode cX8_goTo 7 = .ok (.iload_n 1, 1) := by decide +kernel
theorem dX8_goTo_8 : decode cX8_goTo 8 = .ok (.if_icmp .gt 14, 3) := by decide +kernel
theorem dX8_goTo_11 : decode cX8_goTo 11 = .ok (.aload_n 0, 1) := by decide +kernel
theorem dX8_goTo_12 : decode cX8_goTo 12 = .ok (.iload_n 2, 1) := by decide +kernel
theorem dX8_goTo_13 : decode cX8_goTo 13 = .ok (.invokevirtual 130, 3) := by decide +kernel
theorem dX8_goTo_16 : decode cX8_goTo 16 = .ok (.iinc 2 1, 3) := by decide +kernel
theorem dX8_goTo_19 : decode cX8_goTo 19 = .ok (.goto (-13), 3) := by decide +kernel
theorem dX8_goTo_22 : decode cX8_goTo 22 = .ok (.return_, 1) := by decide +kernel
theorem dX8_down_0 : decode cX8_down 0 = .ok (.iload_n 1, 1) := by decide +kernel
theorem dX8_down_1 : decode cX8_down 1 = .ok (.iload_n 2, 1) := by decide +kernel
theorem dX8_down_2 : decode cX8_down 2 = .ok (.invokestatic 73, 3) := by decide +kernel
theorem dX8_down_5 : decode cX8_down 5 = .ok (.ifCond .eq 10, 3) := by decide +kernel
theorem dX8_down_8 : decode cX8_down 8 = .ok (.iload_n 3, 1) := by decide +kernel
theorem dX8_down_9 : decode cX8_down 9 = .ok (.invokestatic 119, 3) := by decide +kernel
theorem dX8_down_12 : decode cX8_down 12 = .ok (.ifCond .ne 6, 3) := by decide +kernel
theorem dX8_down_15 : decode cX8_down 15 = .ok (.bipush (-2), 2) := by decide +kernel
theorem dX8_down_17 : decode cX8_down 17 = .ok (.ireturn, 1) := by decide +kernel
theorem dX8_down_18 : decode cX8_down 18 = .ok (.aload_n 0, 1) := by decide +kernel
theorem dX8_down_19 : decode cX8_down 19 = .ok (.getfield 16, 3) := by decide +kernel
theorem dX8_down_22 : decode cX8_down 22 = .ok (.bipush 8, 2) := by decide +kernel
theorem dX8_down_24 : decode cX8_down 24 = .ok (.iload_n 2, 1) := by decide +kernel
theorem dX8_down_25 : decode cX8_down 25 = .ok (.imul, 1) := by decide +kernel
theorem dX8_down_26 : decode cX8_down 26 = .ok (.iload_n 1, 1) := by decide +kernel
theorem dX8_down_27 : decode cX8_down 27 = .ok (.iadd, 1) := by decide +kernel
theorem dX8_down_28 : decode cX8_down 28 = .ok (.baload, 1) := by decide +kernel
theorem dX8_down_29 : decode cX8_down 29 = .ok (.ifCond .ne 6, 3) := by decide +kernel
theorem dX8_down_32 : decode cX8_down 32 = .ok (.bipush (-4), 2) := by decide +kernel
theorem dX8_down_34 : decode cX8_down 34 = .ok (.ireturn, 1) := by decide +kernel
theorem dX8_down_35 : decode cX8_down 35 = .ok (.aload_n 0, 1) := by decide +kernel
theorem dX8_down_36 : decode cX8_down 36 = .ok (.iload_n 3, 1) := by decide +kernel
theorem dX8_down_37 : decode cX8_down 37 = .ok (.invokevirtual 134, 3) := by decide +kernel
theorem dX8_down_40 : decode cX8_down 40 = .ok (.aload_n 0, 1) := by decide +kernel
theorem dX8_down_41 : decode cX8_down 41 = .ok (.getfield 20, 3) := by decide +kernel
theorem dX8_down_44 : decode cX8_down 44 = .ok (.bipush 8, 2) := by decide +kernel
theorem dX8_down_46 : decode cX8_down 46 = .ok (.iload_n 2, 1) := by decide +kernel
theorem dX8_down_47 : decode cX8_down 47 = .ok (.imul, 1) := by decide +kernel
theorem dX8_down_48 : decode cX8_down 48 = .ok (.iload_n 1, 1) := by decide +kernel
theorem dX8_down_49 : decode cX8_down 49 = .ok (.iadd, 1) := by decide +kernel
theorem dX8_down_50 : decode cX8_down 50 = .ok (.baload, 1) := by decide +kernel
theorem dX8_down_51 : decode cX8_down 51 = .ok (.ifCond .eq 7, 3) := by decide +kernel
theorem dX8_down_54 : decode cX8_down 54 = .ok (.iconst 1, 1) := by decide +kernel
theorem dX8_down_55 : decode cX8_down 55 = .ok (.goto 4, 3) := by decide +kernel
theorem dX8_down_58 : decode cX8_down 58 = .ok (.iconst 0, 1) := by decide +kernel
theorem dX8_down_59 : decode cX8_down 59 = .ok (.ireturn, 1) := by decide +kernel
theorem dX8_lightOf_0 : decode cX8_lightOf 0 = .ok (.aload_n 0, 1) := by decide +kernel
theorem dX8_lightOf_1 : decode cX8_lightOf 1 = .ok (.getfield 38, 3) := by decide +kernel
theorem dX8_lightOf_4 : decode cX8_lightOf 4 = .ok (.iload_n 2, 1) := by decide +kernel
theorem dX8_lightOf_5 : decode cX8_lightOf 5 = .ok (.baload, 1) := by decide +kernel
theorem dX8_lightOf_6 : decode cX8_lightOf 6 = .ok (.ifCond .eq 29, 3) := by decide +kernel
theorem dX8_lightOf_9 : decode cX8_lightOf 9 = .ok (.iload_n 3, 1) := by decide +kernel
theorem dX8_lightOf_10 : decode cX8_lightOf 10 = .ok (.ifCond .ne 7, 3) := by decide +kernel
theorem dX8_lightOf_13 : decode cX8_lightOf 13 = .ok (.iconst 0, 1) := by decide +kernel
theorem dX8_lightOf_14 : decode cX8_lightOf 14 = .ok (.goto 20, 3) := by decide +kernel
theorem dX8_lightOf_17 : decode cX8_lightOf 17 = .ok (.aload_n 0, 1) := by decide +kernel
theorem dX8_lightOf_18 : decode cX8_lightOf 18 = .ok (.getfield 41, 3) := by decide +kernel
theorem dX8_lightOf_21 : decode cX8_lightOf 21 = .ok (.i2l, 1) := by decide +kernel
theorem dX8_lightOf_22 : decode cX8_lightOf 22 = .ok (.aload_n 0, 1) := by decide +kernel
theorem dX8_lightOf_23 : decode cX8_lightOf 23 = .ok (.iload_n 1, 1) := by decide +kernel
theorem dX8_lightOf_24 : decode cX8_lightOf 24 = .ok (.iconst 0, 1) := by decide +kernel
theorem dX8_lightOf_25 : decode cX8_lightOf 25 = .ok (.invokevirtual 110, 3) := by decide +kernel
theorem dX8_lightOf_28 : decode cX8_lightOf 28 = .ok (.lmul, 1) := by decide +kernel
theorem dX8_lightOf_29 : decode cX8_lightOf 29 = .ok (.ldc2_w 114, 3) := by decide +kernel
theorem dX8_lightOf_32 : decode cX8_lightOf 32 = .ok (.ldiv, 1) := by decide +kernel
theorem dX8_lightOf_33 : decode cX8_lightOf 33 = .ok (.l2i, 1) := by decide +kernel
theorem dX8_lightOf_34 : decode cX8_lightOf 34 = .ok (.ireturn, 1) := by decide +kernel
theorem dX8_lightOf_35 : decode cX8_lightOf 35 = .ok (.aload_n 0, 1) := by decide +kernel
theorem dX8_lightOf_36 : decode cX8_lightOf 36 = .ok (.getfield 35, 3) := by decide +kernel
theorem dX8_lightOf_39 : decode cX8_lightOf 39 = .ok (.iload_n 2, 1) := by decide +kernel
theorem dX8_lightOf_40 : decode cX8_lightOf 40 = .ok (.iaload, 1) := by decide +kernel
theorem dX8_lightOf_41 : decode cX8_lightOf 41 = .ok (.ifCond .ne 7, 3) := by decide +kernel
theorem dX8_lightOf_44 : decode cX8_lightOf 44 = .ok (.lconst 0, 1) := by decide +kernel
theorem dX8_lightOf_45 : decode cX8_lightOf 45 = .ok (.goto 27, 3) := by decide +kernel
theorem dX8_lightOf_48 : decode cX8_lightOf 48 = .ok (.ldc2_w 137, 3) := by decide +kernel
theorem dX8_lightOf_51 : decode cX8_lightOf 51 = .ok (.aload_n 0, 1) := by decide +kernel
theorem dX8_lightOf_52 : decode cX8_lightOf 52 = .ok (.getfield 35, 3) := by decide +kernel
theorem dX8_lightOf_55 : decode cX8_lightOf 55 = .ok (.iload_n 2, 1) := by decide +kernel
theorem dX8_lightOf_56 : decode cX8_lightOf 56 = .ok (.iaload, 1) := by decide +kernel
theorem dX8_lightOf_57 : decode cX8_lightOf 57 = .ok (.i2l, 1) := by decide +kernel
theorem dX8_lightOf_58 : decode cX8_lightOf 58 = .ok (.lmul, 1) := by decide +kernel
theorem dX8_lightOf_59 : decode cX8_lightOf 59 = .ok (.aload_n 0, 1) := by decide +kernel
theorem dX8_lightOf_60 : decode cX8_lightOf 60 = .ok (.iload_n 1, 1) := by decide +kernel
theorem dX8_lightOf_61 : decode cX8_lightOf 61 = .ok (.aload_n 0, 1) := by decide +kernel
theorem dX8_lightOf_62 : decode cX8_lightOf 62 = .ok (.getfield 32, 3) := by decide +kernel
theorem dX8_lightOf_65 : decode cX8_lightOf 65 = .ok (.iload_n 2, 1) := by decide +kernel
theorem dX8_lightOf_66 : decode cX8_lightOf 66 = .ok (.iaload, 1) := by decide +kernel
theorem dX8_lightOf_67 : decode cX8_lightOf 67 = .ok (.iconst 0, 1) := by decide +kernel
theorem dX8_lightOf_68 : decode cX8_lightOf 68 = .ok (.invokevirtual 104, 3) := by decide +kernel
theorem dX8_lightOf_71 : decode cX8_lightOf 71 = .ok (.lmul, 1) := by decide +kernel
theorem dX8_lightOf_72 : decode cX8_lightOf 72 = .ok (.lstore 4, 2) := by decide +kernel
theorem dX8_lightOf_74 : decode cX8_lightOf 74 = .ok (.aload_n 0, 1) := by decide +kernel
theorem dX8_lightOf_75 : decode cX8_lightOf 75 = .ok (.getfield 29, 3) := by decide +kernel
theorem dX8_lightOf_78 : decode cX8_lightOf 78 = .ok (.iload_n 2, 1) := by decide +kernel
theorem dX8_lightOf_79 : decode cX8_lightOf 79 = .ok (.iaload, 1) := by decide +kernel
theorem dX8_lightOf_80 : decode cX8_lightOf 80 = .ok (.i2l, 1) := by decide +kernel
theorem dX8_lightOf_81 : decode cX8_lightOf 81 = .ok (.aload_n 0, 1) := by decide +kernel
theorem dX8_lightOf_82 : decode cX8_lightOf 82 = .ok (.iload_n 1, 1) := by decide +kernel
theorem dX8_lightOf_83 : decode cX8_lightOf 83 = .ok (.iconst 0, 1) := by decide +kernel
theorem dX8_lightOf_84 : decode cX8_lightOf 84 = .ok (.invokevirtual 110, 3) := by decide +kernel
theorem dX8_lightOf_87 : decode cX8_lightOf 87 = .ok (.lmul, 1) := by decide +kernel
theorem dX8_lightOf_88 : decode cX8_lightOf 88 = .ok (.lload 4, 2) := by decide +kernel
theorem dX8_lightOf_90 : decode cX8_lightOf 90 = .ok (.ladd, 1) := by decide +kernel
theorem dX8_lightOf_91 : decode cX8_lightOf 91 = .ok (.ldc2_w 114, 3) := by decide +kernel
theorem dX8_lightOf_94 : decode cX8_lightOf 94 = .ok (.ldiv, 1) := by decide +kernel
theorem dX8_lightOf_95 : decode cX8_lightOf 95 = .ok (.l2i, 1) := by decide +kernel
theorem dX8_lightOf_96 : decode cX8_lightOf 96 = .ok (.ireturn, 1) := by decide +kernel
theorem dX8_light_0 : decode cX8_light 0 = .ok (.aload_n 0, 1) := by decide +kernel
theorem dX8_light_1 : decode cX8_light 1 = .ok (.iload_n 1, 1) := by decide +kernel
theorem dX8_light_2 : decode cX8_light 2 = .ok (.invokevirtual 77, 3) := by decide +kernel
theorem dX8_light_5 : decode cX8_light 5 = .ok (.ifCond .eq 10, 3) := by decide +kernel
theorem dX8_light_8 : decode cX8_light 8 = .ok (.iload_n 2, 1) := by decide +kernel
theorem dX8_light_9 : decode cX8_light 9 = .ok (.invokestatic 119, 3) := by decide +kernel
theorem dX8_light_12 : decode cX8_light 12 = .ok (.ifCond .ne 6, 3) := by decide +kernel
theorem dX8_light_15 : decode cX8_light 15 = .ok (.bipush (-2), 2) := by decide +kernel
theorem dX8_light_17 : decode cX8_light 17 = .ok (.ireturn, 1) := by decide +kernel
theorem dX8_light_18 : decode cX8_light 18 = .ok (.iload_n 3, 1) := by decide +kernel
theorem dX8_light_19 : decode cX8_light 19 = .ok (.iconst 0, 1) := by decide +kernel
theorem dX8_light_20 : decode cX8_light 20 = .ok (.iconst 1, 1) := by decide +kernel
theorem dX8_light_21 : decode cX8_light 21 = .ok (.invokestatic 66, 3) := by decide +kernel
theorem dX8_light_24 : decode cX8_light 24 = .ok (.ifCond .ne 6, 3) := by decide +kernel
theorem dX8_light_27 : decode cX8_light 27 = .ok (.bipush (-3), 2) := by decide +kernel
theorem dX8_light_29 : decode cX8_light 29 = .ok (.ireturn, 1) := by decide +kernel
theorem dX8_light_30 : decode cX8_light 30 = .ok (.aload_n 0, 1) := by decide +kernel
theorem dX8_light_31 : decode cX8_light 31 = .ok (.iload_n 2, 1) := by decide +kernel
theorem dX8_light_32 : decode cX8_light 32 = .ok (.invokevirtual 134, 3) := by decide +kernel
theorem dX8_light_35 : decode cX8_light 35 = .ok (.aload_n 0, 1) := by decide +kernel
theorem dX8_light_36 : decode cX8_light 36 = .ok (.iload_n 1, 1) := by decide +kernel
theorem dX8_light_37 : decode cX8_light 37 = .ok (.iload_n 2, 1) := by decide +kernel
theorem dX8_light_38 : decode cX8_light 38 = .ok (.iload_n 3, 1) := by decide +kernel
theorem dX8_light_39 : decode cX8_light 39 = .ok (.invokevirtual 139, 3) := by decide +kernel
theorem dX8_light_42 : decode cX8_light 42 = .ok (.ireturn, 1) := by decide +kernel
theorem dX8_hours_0 : decode cX8_hours 0 = .ok (.iconst 0, 1) := by decide +kernel
theorem dX8_hours_1 : decode cX8_hours 1 = .ok (.istore 4, 2) := by decide +kernel
theorem dX8_hours_3 : decode cX8_hours 3 = .ok (.aload_n 0, 1) := by decide +kernel
theorem dX8_hours_4 : decode cX8_hours 4 = .ok (.invokevirtual 127, 3) := by decide +kernel
theorem dX8_hours_7 : decode cX8_hours 7 = .ok (.iconst 0, 1) := by decide +kernel
theorem dX8_hours_8 : decode cX8_hours 8 = .ok (.istore 5, 2) := by decide +kernel
theorem dX8_hours_10 : decode cX8_hours 10 = .ok (.iload 5, 2) := by decide +kernel
theorem dX8_hours_12 : decode cX8_hours 12 = .ok (.bipush 12, 2) := by decide +kernel
theorem dX8_hours_14 : decode cX8_hours 14 = .ok (.if_icmp .ge 56, 3) := by decide +kernel
theorem dX8_hours_17 : decode cX8_hours 17 = .ok (.aload_n 0, 1) := by decide +kernel
theorem dX8_hours_18 : decode cX8_hours 18 = .ok (.iload 5, 2) := by decide +kernel
theorem dX8_hours_20 : decode cX8_hours 20 = .ok (.invokevirtual 130, 3) := by decide +kernel
theorem dX8_hours_23 : decode cX8_hours 23 = .ok (.iload_n 1, 1) := by decide +kernel
theorem dX8_hours_24 : decode cX8_hours 24 = .ok (.istore 6, 2) := by decide +kernel
theorem dX8_hours_26 : decode cX8_hours 26 = .ok (.iload 6, 2) := by decide +kernel
theorem dX8_hours_28 : decode cX8_hours 28 = .ok (.iload_n 2, 1) := by decide +kernel
theorem dX8_hours_29 : decode cX8_hours 29 = .ok (.if_icmp .ge 35, 3) := by decide +kernel
theorem dX8_hours_32 : decode cX8_hours 32 = .ok (.iload 4, 2) := by decide +kernel
theorem dX8_hours_34 : decode cX8_hours 34 = .ok (.aload_n 0, 1) := by decide +kernel
theorem dX8_hours_35 : decode cX8_hours 35 = .ok (.iload 6, 2) := by decide +kernel
theorem dX8_hours_37 : decode cX8_hours 37 = .ok (.iload 5, 2) := by decide +kernel
theorem dX8_hours_39 : decode cX8_hours 39 = .ok (.iload_n 3, 1) := by decide +kernel
theorem dX8_hours_40 : decode cX8_hours 40 = .ok (.invokevirtual 139, 3) := by decide +kernel
theorem dX8_hours_43 : decode cX8_hours 43 = .ok (.aload_n 0, 1) := by decide +kernel
theorem dX8_hours_44 : decode cX8_hours 44 = .ok (.getfield 45, 3) := by decide +kernel
theorem dX8_hours_47 : decode cX8_hours 47 = .ok (.if_icmp .lt 7, 3) := by decide +kernel
theorem dX8_hours_50 : decode cX8_hours 50 = .ok (.iconst 1, 1) := by decide +kernel
theorem dX8_hours_51 : decode cX8_hours 51 = .ok (.goto 4, 3) := by decide +kernel
theorem dX8_hours_54 : decode cX8_hours 54 = .ok (.iconst 0, 1) := by decide +kernel
theorem dX8_hours_55 : decode cX8_hours 55 = .ok (.iadd, 1) := by decide +kernel
theorem dX8_hours_56 : decode cX8_hours 56 = .ok (.istore 4, 2) := by decide +kernel
theorem dX8_hours_58 : decode cX8_hours 58 = .ok (.iinc 6 1, 3) := by decide +kernel
theorem dX8_hours_61 : decode cX8_hours 61 = .ok (.goto (-35), 3) := by decide +kernel
theorem dX8_hours_64 : decode cX8_hours 64 = .ok (.iinc 5 1, 3) := by decide +kernel
theorem dX8_hours_67 : decode cX8_hours 67 = .ok (.goto (-57), 3) := by decide +kernel
theorem dX8_hours_70 : decode cX8_hours 70 = .ok (.iload 4, 2) := by decide +kernel
theorem dX8_hours_72 : decode cX8_hours 72 = .ok (.ireturn, 1) := by decide +kernel
theorem dX8_enough_0 : decode cX8_enough 0 = .ok (.aload_n 0, 1) := by decide +kernel
theorem dX8_enough_1 : decode cX8_enough 1 = .ok (.iload_n 1, 1) := by decide +kernel
theorem dX8_enough_2 : decode cX8_enough 2 = .ok (.invokevirtual 77, 3) := by decide +kernel
theorem dX8_enough_5 : decode cX8_enough 5 = .ok (.ifCond .ne 6, 3) := by decide +kernel
theorem dX8_enough_8 : decode cX8_enough 8 = .ok (.bipush (-2), 2) := by decide +kernel
theorem dX8_enough_10 : decode cX8_enough 10 = .ok (.ireturn, 1) := by decide +kernel
theorem dX8_enough_11 : decode cX8_enough 11 = .ok (.iload_n 2, 1) := by decide +kernel
theorem dX8_enough_12 : decode cX8_enough 12 = .ok (.iconst 0, 1) := by decide +kernel
theorem dX8_enough_13 : decode cX8_enough 13 = .ok (.iconst 1, 1) := by decide +kernel
theorem dX8_enough_14 : decode cX8_enough 14 = .ok (.invokestatic 66, 3) := by decide +kernel
theorem dX8_enough_17 : decode cX8_enough 17 = .ok (.ifCond .eq 15, 3) := by decide +kernel
theorem dX8_enough_20 : decode cX8_enough 20 = .ok (.aload_n 0, 1) := by decide +kernel
theorem dX8_enough_21 : decode cX8_enough 21 = .ok (.iload_n 1, 1) := by decide +kernel
theorem dX8_enough_22 : decode cX8_enough 22 = .ok (.iload_n 1, 1) := by decide +kernel
theorem dX8_enough_23 : decode cX8_enough 23 = .ok (.iconst 1, 1) := by decide +kernel
theorem dX8_enough_24 : decode cX8_enough 24 = .ok (.iadd, 1) := by decide +kernel
theorem dX8_enough_25 : decode cX8_enough 25 = .ok (.iload_n 2, 1) := by decide +kernel
theorem dX8_enough_26 : decode cX8_enough 26 = .ok (.invokevirtual 143, 3) := by decide +kernel
theorem dX8_enough_29 : decode cX8_enough 29 = .ok (.goto 5, 3) := by decide +kernel
theorem dX8_enough_32 : decode cX8_enough 32 = .ok (.bipush (-3), 2) := by decide +kernel
theorem dX8_enough_34 : decode cX8_enough 34 = .ok (.ireturn, 1) := by decide +kernel
theorem dX8_offer_0 : decode cX8_offer 0 = .ok (.iload_n 1, 1) := by decide +kernel
theorem dX8_offer_1 : decode cX8_offer 1 = .ok (.iload_n 2, 1) := by decide +kernel
theorem dX8_offer_2 : decode cX8_offer 2 = .ok (.invokestatic 73, 3) := by decide +kernel
theorem dX8_offer_5 : decode cX8_offer 5 = .ok (.ifCond .ne 6, 3) := by decide +kernel
theorem dX8_offer_8 : decode cX8_offer 8 = .ok (.bipush (-2), 2) := by decide +kernel
theorem dX8_offer_10 : decode cX8_offer 10 = .ok (.ireturn, 1) := by decide +kernel
theorem dX8_offer_11 : decode cX8_offer 11 = .ok (.iload_n 3, 1) := by decide +kernel
theorem dX8_offer_12 : decode cX8_offer 12 = .ok (.iconst 1, 1) := by decide +kernel
theorem dX8_offer_13 : decode cX8_offer 13 = .ok (.bipush 8, 2) := by decide +kernel
theorem dX8_offer_15 : decode cX8_offer 15 = .ok (.invokestatic 66, 3) := by decide +kernel
theorem dX8_offer_18 : decode cX8_offer 18 = .ok (.ifCond .eq 15, 3) := by decide +kernel
theorem dX8_offer_21 : decode cX8_offer 21 = .ok (.iload 4, 2) := by decide +kernel
theorem dX8_offer_23 : decode cX8_offer 23 = .ok (.iconst 0, 1) := by decide +kernel
theorem dX8_offer_24 : decode cX8_offer 24 = .ok (.sipush 1000, 3) := by decide +kernel
theorem dX8_offer_27 : decode cX8_offer 27 = .ok (.invokestatic 66, 3) := by decide +kernel
theorem dX8_offer_30 : decode cX8_offer 30 = .ok (.ifCond .ne 6, 3) := by decide +kernel
theorem dX8_offer_33 : decode cX8_offer 33 = .ok (.bipush (-3), 2) := by decide +kernel
theorem dX8_offer_35 : decode cX8_offer 35 = .ok (.ireturn, 1) := by decide +kernel
theorem dX8_offer_36 : decode cX8_offer 36 = .ok (.aload_n 0, 1) := by decide +kernel
theorem dX8_offer_37 : decode cX8_offer 37 = .ok (.getfield 146, 3) := by decide +kernel
theorem dX8_offer_40 : decode cX8_offer 40 = .ok (.iconst 5, 1) := by decide +kernel
theorem dX8_offer_41 : decode cX8_offer 41 = .ok (.if_icmp .ne 6, 3) := by decide +kernel
theorem dX8_offer_44 : decode cX8_offer 44 = .ok (.bipush (-5), 2) := by decide +kernel
theorem dX8_offer_46 : decode cX8_offer 46 = .ok (.ireturn, 1) := by decide +kernel
theorem dX8_offer_47 : decode cX8_offer 47 = .ok (.aload_n 0, 1) := by decide +kernel
theorem dX8_offer_48 : decode cX8_offer 48 = .ok (.getfield 54, 3) := by decide +kernel
theorem dX8_offer_51 : decode cX8_offer 51 = .ok (.aload_n 0, 1) := by decide +kernel
theorem dX8_offer_52 : decode cX8_offer 52 = .ok (.getfield 146, 3) := by decide +kernel
theorem dX8_offer_55 : decode cX8_offer 55 = .ok (.bipush 8, 2) := by decide +kernel
theorem dX8_offer_57 : decode cX8_offer 57 = .ok (.iload_n 2, 1) := by decide +kernel
theorem dX8_offer_58 : decode cX8_offer 58 = .ok (.imul, 1) := by decide +kernel
theorem dX8_offer_59 : decode cX8_offer 59 = .ok (.iload_n 1, 1) := by decide +kernel
theorem dX8_offer_60 : decode cX8_offer 60 = .ok (.iadd, 1) := by decide +kernel
theorem dX8_offer_61 : decode cX8_offer 61 = .ok (.iastore, 1) := by decide +kernel
theorem dX8_offer_62 : decode cX8_offer 62 = .ok (.aload_n 0, 1) := by decide +kernel
theorem dX8_offer_63 : decode cX8_offer 63 = .ok (.getfield 57, 3) := by decide +kernel
theorem dX8_offer_66 : decode cX8_offer 66 = .ok (.aload_n 0, 1) := by decide +kernel
theorem dX8_offer_67 : decode cX8_offer 67 = .ok (.getfield 146, 3) := by decide +kernel
theorem dX8_offer_70 : decode cX8_offer 70 = .ok (.iload_n 3, 1) := by decide +kernel
theorem dX8_offer_71 : decode cX8_offer 71 = .ok (.iastore, 1) := by decide +kernel
theorem dX8_offer_72 : decode cX8_offer 72 = .ok (.aload_n 0, 1) := by decide +kernel
theorem dX8_offer_73 : decode cX8_offer 73 = .ok (.getfield 60, 3) := by decide +kernel
theorem dX8_offer_76 : decode cX8_offer 76 = .ok (.aload_n 0, 1) := by decide +kernel
theorem dX8_offer_77 : decode cX8_offer 77 = .ok (.getfield 146, 3) := by decide +kernel
theorem dX8_offer_80 : decode cX8_offer 80 = .ok (.iload 4, 2) := by decide +kernel
theorem dX8_offer_82 : decode cX8_offer 82 = .ok (.iastore, 1) := by decide +kernel
theorem dX8_offer_83 : decode cX8_offer 83 = .ok (.aload_n 0, 1) := by decide +kernel
theorem dX8_offer_84 : decode cX8_offer 84 = .ok (.dup, 1) := by decide +kernel
theorem dX8_offer_85 : decode cX8_offer 85 = .ok (.getfield 146, 3) := by decide +kernel
theorem dX8_offer_88 : decode cX8_offer 88 = .ok (.iconst 1, 1) := by decide +kernel
theorem dX8_offer_89 : decode cX8_offer 89 = .ok (.iadd, 1) := by decide +kernel
theorem dX8_offer_90 : decode cX8_offer 90 = .ok (.putfield 146, 3) := by decide +kernel
theorem dX8_offer_93 : decode cX8_offer 93 = .ok (.aload_n 0, 1) := by decide +kernel
theorem dX8_offer_94 : decode cX8_offer 94 = .ok (.getfield 146, 3) := by decide +kernel
theorem dX8_offer_97 : decode cX8_offer 97 = .ok (.iconst 1, 1) := by decide +kernel
theorem dX8_offer_98 : decode cX8_offer 98 = .ok (.isub, 1) := by decide +kernel
theorem dX8_offer_99 : decode cX8_offer 99 = .ok (.ireturn, 1) := by decide +kernel
theorem dX8_costOf_0 : decode cX8_costOf 0 = .ok (.iconst 0, 1) := by decide +kernel
theorem dX8_costOf_1 : decode cX8_costOf 1 = .ok (.istore_n 2, 1) := by decide +kernel
theorem dX8_costOf_2 : decode cX8_costOf 2 = .ok (.iconst 0, 1) := by decide +kernel
theorem dX8_costOf_3 : decode cX8_costOf 3 = .ok (.istore_n 3, 1) := by decide +kernel
theorem dX8_costOf_4 : decode cX8_costOf 4 = .ok (.iload_n 3, 1) := by decide +kernel
theorem dX8_costOf_5 : decode cX8_costOf 5 = .ok (.aload_n 0, 1) := by decide +kernel
theorem dX8_costOf_6 : decode cX8_costOf 6 = .ok (.getfield 146, 3) := by decide +kernel
theorem dX8_costOf_9 : decode cX8_costOf 9 = .ok (.if_icmp .ge 87, 3) := by decide +kernel
theorem dX8_costOf_12 : decode cX8_costOf 12 = .ok (.iload_n 1, 1) := by decide +kernel
theorem dX8_costOf_13 : decode cX8_costOf 13 = .ok (.iload_n 3, 1) := by decide +kernel
theorem dX8_costOf_14 : decode cX8_costOf 14 = .ok (.ishr, 1) := by decide +kernel
theorem dX8_costOf_15 : decode cX8_costOf 15 = .ok (.iconst 1, 1) := by decide +kernel
theorem dX8_costOf_16 : decode cX8_costOf 16 = .ok (.iand, 1) := by decide +kernel
theorem dX8_costOf_17 : decode cX8_costOf 17 = .ok (.iconst 1, 1) := by decide +kernel
theorem dX8_costOf_18 : decode cX8_costOf 18 = .ok (.if_icmp .ne 72, 3) := by decide +kernel
theorem dX8_costOf_21 : decode cX8_costOf 21 = .ok (.iload_n 2, 1) := by decide +kernel
theorem dX8_costOf_22 : decode cX8_costOf 22 = .ok (.aload_n 0, 1) := by decide +kernel
theorem dX8_costOf_23 : decode cX8_costOf 23 = .ok (.getfield 60, 3) := by decide +kernel
theorem dX8_costOf_26 : decode cX8_costOf 26 = .ok (.iload_n 3, 1) := by decide +kernel
theorem dX8_costOf_27 : decode cX8_costOf 27 = .ok (.iaload, 1) := by decide +kernel
theorem dX8_costOf_28 : decode cX8_costOf 28 = .ok (.iadd, 1) := by decide +kernel
theorem dX8_costOf_29 : decode cX8_costOf 29 = .ok (.istore_n 2, 1) := by decide +kernel
theorem dX8_costOf_30 : decode cX8_costOf 30 = .ok (.aload_n 0, 1) := by decide +kernel
theorem dX8_costOf_31 : decode cX8_costOf 31 = .ok (.getfield 7, 3) := by decide +kernel
theorem dX8_costOf_34 : decode cX8_costOf 34 = .ok (.aload_n 0, 1) := by decide +kernel
theorem dX8_costOf_35 : decode cX8_costOf 35 = .ok (.getfield 54, 3) := by decide +kernel
theorem dX8_costOf_38 : decode cX8_costOf 38 = .ok (.iload_n 3, 1) := by decide +kernel
theorem dX8_costOf_39 : decode cX8_costOf 39 = .ok (.iaload, 1) := by decide +kernel
theorem dX8_costOf_40 : decode cX8_costOf 40 = .ok (.iaload, 1) := by decide +kernel
theorem dX8_costOf_41 : decode cX8_costOf 41 = .ok (.iconst 1, 1) := by decide +kernel
theorem dX8_costOf_42 : decode cX8_costOf 42 = .ok (.if_icmp .eq 5, 3) := by decide +kernel
theorem dX8_costOf_45 : decode cX8_costOf 45 = .ok (.iconst (-1), 1) := by decide +kernel
theorem dX8_costOf_46 : decode cX8_costOf 46 = .ok (.ireturn, 1) := by decide +kernel
theorem dX8_costOf_47 : decode cX8_costOf 47 = .ok (.iconst 0, 1) := by decide +kernel
theorem dX8_costOf_48 : decode cX8_costOf 48 = .ok (.istore 4, 2) := by decide +kernel
theorem dX8_costOf_50 : decode cX8_costOf 50 = .ok (.iload 4, 2) := by decide +kernel
theorem dX8_costOf_52 : decode cX8_costOf 52 = .ok (.iload_n 3, 1) := by decide +kernel
theorem dX8_costOf_53 : decode cX8_costOf 53 = .ok (.if_icmp .ge 37, 3) := by decide +kernel
theorem dX8_costOf_56 : decode cX8_costOf 56 = .ok (.iload_n 1, 1) := by decide +kernel
theorem dX8_costOf_57 : decode cX8_costOf 57 = .ok (.iload 4, 2) := by decide +kernel
theorem dX8_costOf_59 : decode cX8_costOf 59 = .ok (.ishr, 1) := by decide +kernel
theorem dX8_costOf_60 : decode cX8_costOf 60 = .ok (.iconst 1, 1) := by decide +kernel
theorem dX8_costOf_61 : decode cX8_costOf 61 = .ok (.iand, 1) := by decide +kernel
theorem dX8_costOf_62 : decode cX8_costOf 62 = .ok (.iconst 1, 1) := by decide +kernel
theorem dX8_costOf_63 : decode cX8_costOf 63 = .ok (.if_icmp .ne 21, 3) := by decide +kernel
theorem dX8_costOf_66 : decode cX8_costOf 66 = .ok (.aload_n 0, 1) := by decide +kernel
theorem dX8_costOf_67 : decode cX8_costOf 67 = .ok (.getfield 54, 3) := by decide +kernel
theorem dX8_costOf_70 : decode cX8_costOf 70 = .ok (.iload 4, 2) := by decide +kernel
theorem dX8_costOf_72 : decode cX8_costOf 72 = .ok (.iaload, 1) := by decide +kernel
theorem dX8_costOf_73 : decode cX8_costOf 73 = .ok (.aload_n 0, 1) := by decide +kernel
theorem dX8_costOf_74 : decode cX8_costOf 74 = .ok (.getfield 54, 3) := by decide +kernel
theorem dX8_costOf_77 : decode cX8_costOf 77 = .ok (.iload_n 3, 1) := by decide +kernel
theorem dX8_costOf_78 : decode cX8_costOf 78 = .ok (.iaload, 1) := by decide +kernel
theorem dX8_costOf_79 : decode cX8_costOf 79 = .ok (.if_icmp .ne 5, 3) := by decide +kernel
theorem dX8_costOf_82 : decode cX8_costOf 82 = .ok (.iconst (-1), 1) := by decide +kernel
theorem dX8_costOf_83 : decode cX8_costOf 83 = .ok (.ireturn, 1) := by decide +kernel
theorem dX8_costOf_84 : decode cX8_costOf 84 = .ok (.iinc 4 1, 3) := by decide +kernel
theorem dX8_costOf_87 : decode cX8_costOf 87 = .ok (.goto (-37), 3) := by decide +kernel
theorem dX8_costOf_90 : decode cX8_costOf 90 = .ok (.iinc 3 1, 3) := by decide +kernel
theorem dX8_costOf_93 : decode cX8_costOf 93 = .ok (.goto (-89), 3) := by decide +kernel
theorem dX8_costOf_96 : decode cX8_costOf 96 = .ok (.iload_n 2, 1) := by decide +kernel
theorem dX8_costOf_97 : decode cX8_costOf 97 = .ok (.ireturn, 1) := by decide +kernel
theorem dX8_put_0 : decode cX8_put 0 = .ok (.iconst 0, 1) := by decide +kernel
theorem dX8_put_1 : decode cX8_put 1 = .ok (.istore_n 2, 1) := by decide +kernel
theorem dX8_put_2 : decode cX8_put 2 = .ok (.iload_n 2, 1) := by decide +kernel
theorem dX8_put_3 : decode cX8_put 3 = .ok (.aload_n 0, 1) := by decide +kernel
theorem dX8_put_4 : decode cX8_put 4 = .ok (.getfield 146, 3) := by decide +kernel
theorem dX8_put_7 : decode cX8_put 7 = .ok (.if_icmp .ge 47, 3) := by decide +kernel
theorem dX8_put_10 : decode cX8_put 10 = .ok (.iload_n 1, 1) := by decide +kernel
theorem dX8_put_11 : decode cX8_put 11 = .ok (.iload_n 2, 1) := by decide +kernel
theorem dX8_put_12 : decode cX8_put 12 = .ok (.ishr, 1) := by decide +kernel
theorem dX8_put_13 : decode cX8_put 13 = .ok (.iconst 1, 1) := by decide +kernel
theorem dX8_put_14 : decode cX8_put 14 = .ok (.iand, 1) := by decide +kernel
theorem dX8_put_15 : decode cX8_put 15 = .ok (.iconst 1, 1) := by decide +kernel
theorem dX8_put_16 : decode cX8_put 16 = .ok (.if_icmp .ne 32, 3) := by decide +kernel
theorem dX8_put_19 : decode cX8_put 19 = .ok (.aload_n 0, 1) := by decide +kernel
theorem dX8_put_20 : decode cX8_put 20 = .ok (.getfield 7, 3) := by decide +kernel
theorem dX8_put_23 : decode cX8_put 23 = .ok (.aload_n 0, 1) := by decide +kernel
theorem dX8_put_24 : decode cX8_put 24 = .ok (.getfield 54, 3) := by decide +kernel
theorem dX8_put_27 : decode cX8_put 27 = .ok (.iload_n 2, 1) := by decide +kernel
theorem dX8_put_28 : decode cX8_put 28 = .ok (.iaload, 1) := by decide +kernel
theorem dX8_put_29 : decode cX8_put 29 = .ok (.iconst 2, 1) := by decide +kernel
theorem dX8_put_30 : decode cX8_put 30 = .ok (.iastore, 1) := by decide +kernel
theorem dX8_put_31 : decode cX8_put 31 = .ok (.aload_n 0, 1) := by decide +kernel
theorem dX8_put_32 : decode cX8_put 32 = .ok (.getfield 13, 3) := by decide +kernel
theorem dX8_put_35 : decode cX8_put 35 = .ok (.aload_n 0, 1) := by decide +kernel
theorem dX8_put_36 : decode cX8_put 36 = .ok (.getfield 54, 3) := by decide +kernel
theorem dX8_put_39 : decode cX8_put 39 = .ok (.iload_n 2, 1) := by decide +kernel
theorem dX8_put_40 : decode cX8_put 40 = .ok (.iaload, 1) := by decide +kernel
theorem dX8_put_41 : decode cX8_put 41 = .ok (.aload_n 0, 1) := by decide +kernel
theorem dX8_put_42 : decode cX8_put 42 = .ok (.getfield 57, 3) := by decide +kernel
theorem dX8_put_45 : decode cX8_put 45 = .ok (.iload_n 2, 1) := by decide +kernel
theorem dX8_put_46 : decode cX8_put 46 = .ok (.iaload, 1) := by decide +kernel
theorem dX8_put_47 : decode cX8_put 47 = .ok (.iastore, 1) := by decide +kernel
theorem dX8_put_48 : decode cX8_put 48 = .ok (.iinc 2 1, 3) := by decide +kernel
theorem dX8_put_51 : decode cX8_put 51 = .ok (.goto (-49), 3) := by decide +kernel
theorem dX8_put_54 : decode cX8_put 54 = .ok (.return_, 1) := by decide +kernel
theorem dX8_takeBack_0 : decode cX8_takeBack 0 = .ok (.iconst 0, 1) := by decide +kernel
theorem dX8_takeBack_1 : decode cX8_takeBack 1 = .ok (.istore_n 2, 1) := by decide +kernel
theorem dX8_takeBack_2 : decode cX8_takeBack 2 = .ok (.iload_n 2, 1) := by decide +kernel
theorem dX8_takeBack_3 : decode cX8_takeBack 3 = .ok (.aload_n 0, 1) := by decide +kernel
theorem dX8_takeBack_4 : decode cX8_takeBack 4 = .ok (.getfield 146, 3) := by decide +kernel
theorem dX8_takeBack_7 : decode cX8_takeBack 7 = .ok (.if_icmp .ge 42, 3) := by decide +kernel
theorem dX8_takeBack_10 : decode cX8_takeBack 10 = .ok (.iload_n 1, 1) := by decide +kernel
theorem dX8_takeBack_11 : decode cX8_takeBack 11 = .ok (.iload_n 2, 1) := by decide +kernel
theorem dX8_takeBack_12 : decode cX8_takeBack 12 = .ok (.ishr, 1) := by decide +kernel
theorem dX8_takeBack_13 : decode cX8_takeBack 13 = .ok (.iconst 1, 1) := by decide +kernel
theorem dX8_takeBack_14 : decode cX8_takeBack 14 = .ok (.iand, 1) := by decide +kernel
theorem dX8_takeBack_15 : decode cX8_takeBack 15 = .ok (.iconst 1, 1) := by decide +kernel
theorem dX8_takeBack_16 : decode cX8_takeBack 16 = .ok (.if_icmp .ne 27, 3) := by decide +kernel
theorem dX8_takeBack_19 : decode cX8_takeBack 19 = .ok (.aload_n 0, 1) := by decide +kernel
theorem dX8_takeBack_20 : decode cX8_takeBack 20 = .ok (.getfield 7, 3) := by decide +kernel
theorem dX8_takeBack_23 : decode cX8_takeBack 23 = .ok (.aload_n 0, 1) := by decide +kernel
theorem dX8_takeBack_24 : decode cX8_takeBack 24 = .ok (.getfield 54, 3) := by decide +kernel
theorem dX8_takeBack_27 : decode cX8_takeBack 27 = .ok (.iload_n 2, 1) := by decide +kernel
theorem dX8_takeBack_28 : decode cX8_takeBack 28 = .ok (.iaload, 1) := by decide +kernel
theorem dX8_takeBack_29 : decode cX8_takeBack 29 = .ok (.iconst 1, 1) := by decide +kernel
theorem dX8_takeBack_30 : decode cX8_takeBack 30 = .ok (.iastore, 1) := by decide +kernel
theorem dX8_takeBack_31 : decode cX8_takeBack 31 = .ok (.aload_n 0, 1) := by decide +kernel
theorem dX8_takeBack_32 : decode cX8_takeBack 32 = .ok (.getfield 13, 3) := by decide +kernel
theorem dX8_takeBack_35 : decode cX8_takeBack 35 = .ok (.aload_n 0, 1) := by decide +kernel
theorem dX8_takeBack_36 : decode cX8_takeBack 36 = .ok (.getfield 54, 3) := by decide +kernel
theorem dX8_takeBack_39 : decode cX8_takeBack 39 = .ok (.iload_n 2, 1) := by decide +kernel
theorem dX8_takeBack_40 : decode cX8_takeBack 40 = .ok (.iaload, 1) := by decide +kernel
theorem dX8_takeBack_41 : decode cX8_takeBack 41 = .ok (.iconst 0, 1) := by decide +kernel
theorem dX8_takeBack_42 : decode cX8_takeBack 42 = .ok (.iastore, 1) := by decide +kernel
theorem dX8_takeBack_43 : decode cX8_takeBack 43 = .ok (.iinc 2 1, 3) := by decide +kernel
theorem dX8_takeBack_46 : decode cX8_takeBack 46 = .ok (.goto (-44), 3) := by decide +kernel
theorem dX8_takeBack_49 : decode cX8_takeBack 49 = .ok (.return_, 1) := by decide +kernel
theorem dX8_findBest_0 : decode cX8_findBest 0 = .ok (.aload_n 0, 1) := by decide +kernel
theorem dX8_findBest_1 : decode cX8_findBest 1 = .ok (.iconst (-1), 1) := by decide +kernel
theorem dX8_findBest_2 : decode cX8_findBest 2 = .ok (.putfield 149, 3) := by decide +kernel
theorem dX8_findBest_5 : decode cX8_findBest 5 = .ok (.iconst 0, 1) := by decide +kernel
theorem dX8_findBest_6 : decode cX8_findBest 6 = .ok (.istore_n 2, 1) := by decide +kernel
theorem dX8_findBest_7 : decode cX8_findBest 7 = .ok (.iload_n 2, 1) := by decide +kernel
theorem dX8_findBest_8 : decode cX8_findBest 8 = .ok (.iconst 1, 1) := by decide +kernel
theorem dX8_findBest_9 : decode cX8_findBest 9 = .ok (.aload_n 0, 1) := by decide +kernel
theorem dX8_findBest_10 : decode cX8_findBest 10 = .ok (.getfield 146, 3) := by decide +kernel
theorem dX8_findBest_13 : decode cX8_findBest 13 = .ok (.ishl, 1) := by decide +kernel
theorem dX8_findBest_14 : decode cX8_findBest 14 = .ok (.if_icmp .ge 89, 3) := by decide +kernel
theorem dX8_findBest_17 : decode cX8_findBest 17 = .ok (.aload_n 0, 1) := by decide +kernel
theorem dX8_findBest_18 : decode cX8_findBest 18 = .ok (.iload_n 2, 1) := by decide +kernel
theorem dX8_findBest_19 : decode cX8_findBest 19 = .ok (.invokevirtual 152, 3) := by decide +kernel
theorem dX8_findBest_22 : decode cX8_findBest 22 = .ok (.istore_n 3, 1) := by decide +kernel
theorem dX8_findBest_23 : decode cX8_findBest 23 = .ok (.iload_n 3, 1) := by decide +kernel
theorem dX8_findBest_24 : decode cX8_findBest 24 = .ok (.iconst (-1), 1) := by decide +kernel
theorem dX8_findBest_25 : decode cX8_findBest 25 = .ok (.if_icmp .eq 72, 3) := by decide +kernel
theorem dX8_findBest_28 : decode cX8_findBest 28 = .ok (.iload_n 3, 1) := by decide +kernel
theorem dX8_findBest_29 : decode cX8_findBest 29 = .ok (.iload_n 1, 1) := by decide +kernel
theorem dX8_findBest_30 : decode cX8_findBest 30 = .ok (.if_icmp .gt 67, 3) := by decide +kernel
theorem dX8_findBest_33 : decode cX8_findBest 33 = .ok (.aload_n 0, 1) := by decide +kernel
theorem dX8_findBest_34 : decode cX8_findBest 34 = .ok (.iload_n 2, 1) := by decide +kernel
theorem dX8_findBest_35 : decode cX8_findBest 35 = .ok (.invokevirtual 155, 3) := by decide +kernel
theorem dX8_findBest_38 : decode cX8_findBest 38 = .ok (.aload_n 0, 1) := by decide +kernel
theorem dX8_findBest_39 : decode cX8_findBest 39 = .ok (.iconst 0, 1) := by decide +kernel
theorem dX8_findBest_40 : decode cX8_findBest 40 = .ok (.aload_n 0, 1) := by decide +kernel
theorem dX8_findBest_41 : decode cX8_findBest 41 = .ok (.getfield 70, 3) := by decide +kernel
theorem dX8_findBest_44 : decode cX8_findBest 44 = .ok (.iconst 0, 1) := by decide +kernel
theorem dX8_findBest_45 : decode cX8_findBest 45 = .ok (.invokevirtual 143, 3) := by decide +kernel
theorem dX8_findBest_48 : decode cX8_findBest 48 = .ok (.istore 4, 2) := by decide +kernel
theorem dX8_findBest_50 : decode cX8_findBest 50 = .ok (.aload_n 0, 1) := by decide +kernel
theorem dX8_findBest_51 : decode cX8_findBest 51 = .ok (.iload_n 2, 1) := by decide +kernel
theorem dX8_findBest_52 : decode cX8_findBest 52 = .ok (.invokevirtual 158, 3) := by decide +kernel
theorem dX8_findBest_55 : decode cX8_findBest 55 = .ok (.iload 4, 2) := by decide +kernel
theorem dX8_findBest_57 : decode cX8_findBest 57 = .ok (.aload_n 0, 1) := by decide +kernel
theorem dX8_findBest_58 : decode cX8_findBest 58 = .ok (.getfield 149, 3) := by decide +kernel
theorem dX8_findBest_61 : decode cX8_findBest 61 = .ok (.if_icmp .gt 20, 3) := by decide +kernel
theorem dX8_findBest_64 : decode cX8_findBest 64 = .ok (.iload 4, 2) := by decide +kernel
theorem dX8_findBest_66 : decode cX8_findBest 66 = .ok (.aload_n 0, 1) := by decide +kernel
theorem dX8_findBest_67 : decode cX8_findBest 67 = .ok (.getfield 149, 3) := by decide +kernel
theorem dX8_findBest_70 : decode cX8_findBest 70 = .ok (.if_icmp .ne 27, 3) := by decide +kernel
theorem dX8_findBest_73 : decode cX8_findBest 73 = .ok (.iload_n 3, 1) := by decide +kernel
theorem dX8_findBest_74 : decode cX8_findBest 74 = .ok (.aload_n 0, 1) := by decide +kernel
theorem dX8_findBest_75 : decode cX8_findBest 75 = .ok (.getfield 161, 3) := by decide +kernel
theorem dX8_findBest_78 : decode cX8_findBest 78 = .ok (.if_icmp .ge 19, 3) := by decide +kernel
theorem dX8_findBest_81 : decode cX8_findBest 81 = .ok (.aload_n 0, 1) := by decide +kernel
theorem dX8_findBest_82 : decode cX8_findBest 82 = .ok (.iload 4, 2) := by decide +kernel
theorem dX8_findBest_84 : decode cX8_findBest 84 = .ok (.putfield 149, 3) := by decide +kernel
theorem dX8_findBest_87 : decode cX8_findBest 87 = .ok (.aload_n 0, 1) := by decide +kernel
theorem dX8_findBest_88 : decode cX8_findBest 88 = .ok (.iload_n 3, 1) := by decide +kernel
theorem dX8_findBest_89 : decode cX8_findBest 89 = .ok (.putfield 161, 3) := by decide +kernel
theorem dX8_findBest_92 : decode cX8_findBest 92 = .ok (.aload_n 0, 1) := by decide +kernel
theorem dX8_findBest_93 : decode cX8_findBest 93 = .ok (.iload_n 2, 1) := by decide +kernel
theorem dX8_findBest_94 : decode cX8_findBest 94 = .ok (.putfield 164, 3) := by decide +kernel
theorem dX8_findBest_97 : decode cX8_findBest 97 = .ok (.iinc 2 1, 3) := by decide +kernel
theorem dX8_findBest_100 : decode cX8_findBest 100 = .ok (.goto (-93), 3) := by decide +kernel
theorem dX8_findBest_103 : decode cX8_findBest 103 = .ok (.return_, 1) := by decide +kernel
theorem dX8_best_0 : decode cX8_best 0 = .ok (.iload_n 1, 1) := by decide +kernel
theorem dX8_best_1 : decode cX8_best 1 = .ok (.iconst 0, 1) := by decide +kernel
theorem dX8_best_2 : decode cX8_best 2 = .ok (.sipush 5000, 3) := by decide +kernel
theorem dX8_best_5 : decode cX8_best 5 = .ok (.invokestatic 66, 3) := by decide +kernel
theorem dX8_best_8 : decode cX8_best 8 = .ok (.ifCond .eq 12, 3) := by decide +kernel
theorem dX8_best_11 : decode cX8_best 11 = .ok (.iload_n 2, 1) := by decide +kernel
theorem dX8_best_12 : decode cX8_best 12 = .ok (.iconst 0, 1) := by decide +kernel
theorem dX8_best_13 : decode cX8_best 13 = .ok (.iconst 2, 1) := by decide +kernel
theorem dX8_best_14 : decode cX8_best 14 = .ok (.invokestatic 66, 3) := by decide +kernel
theorem dX8_best_17 : decode cX8_best 17 = .ok (.ifCond .ne 6, 3) := by decide +kernel
theorem dX8_best_20 : decode cX8_best 20 = .ok (.bipush (-3), 2) := by decide +kernel
theorem dX8_best_22 : decode cX8_best 22 = .ok (.ireturn, 1) := by decide +kernel
theorem dX8_best_23 : decode cX8_best 23 = .ok (.aload_n 0, 1) := by decide +kernel
theorem dX8_best_24 : decode cX8_best 24 = .ok (.iload_n 1, 1) := by decide +kernel
theorem dX8_best_25 : decode cX8_best 25 = .ok (.invokevirtual 167, 3) := by decide +kernel
theorem dX8_best_28 : decode cX8_best 28 = .ok (.iload_n 2, 1) := by decide +kernel
theorem dX8_best_29 : decode cX8_best 29 = .ok (.ifCond .ne 10, 3) := by decide +kernel
theorem dX8_best_32 : decode cX8_best 32 = .ok (.aload_n 0, 1) := by decide +kernel
theorem dX8_best_33 : decode cX8_best 33 = .ok (.getfield 164, 3) := by decide +kernel
theorem dX8_best_36 : decode cX8_best 36 = .ok (.goto 19, 3) := by decide +kernel
theorem dX8_best_39 : decode cX8_best 39 = .ok (.iload_n 2, 1) := by decide +kernel
theorem dX8_best_40 : decode cX8_best 40 = .ok (.iconst 1, 1) := by decide +kernel
theorem dX8_best_41 : decode cX8_best 41 = .ok (.if_icmp .ne 10, 3) := by decide +kernel
theorem dX8_best_44 : decode cX8_best 44 = .ok (.aload_n 0, 1) := by decide +kernel
theorem dX8_best_45 : decode cX8_best 45 = .ok (.getfield 161, 3) := by decide +kernel
theorem dX8_best_48 : decode cX8_best 48 = .ok (.goto 7, 3) := by decide +kernel
theorem dX8_best_51 : decode cX8_best 51 = .ok (.aload_n 0, 1) := by decide +kernel
theorem dX8_best_52 : decode cX8_best 52 = .ok (.getfield 149, 3) := by decide +kernel
theorem dX8_best_55 : decode cX8_best 55 = .ok (.ireturn, 1) := by decide +kernel
theorem dX8_make_0 : decode cX8_make 0 = .ok (.iload_n 1, 1) := by decide +kernel
theorem dX8_make_1 : decode cX8_make 1 = .ok (.iconst 0, 1) := by decide +kernel
theorem dX8_make_2 : decode cX8_make 2 = .ok (.sipush 5000, 3) := by decide +kernel
theorem dX8_make_5 : decode cX8_make 5 = .ok (.invokestatic 66, 3) := by decide +kernel
theorem dX8_make_8 : decode cX8_make 8 = .ok (.ifCond .ne 6, 3) := by decide +kernel
theorem dX8_make_11 : decode cX8_make 11 = .ok (.bipush (-3), 2) := by decide +kernel
theorem dX8_make_13 : decode cX8_make 13 = .ok (.ireturn, 1) := by decide +kernel
theorem dX8_make_14 : decode cX8_make 14 = .ok (.aload_n 0, 1) := by decide +kernel
theorem dX8_make_15 : decode cX8_make 15 = .ok (.iload_n 1, 1) := by decide +kernel
theorem dX8_make_16 : decode cX8_make 16 = .ok (.invokevirtual 167, 3) := by decide +kernel
theorem dX8_make_19 : decode cX8_make 19 = .ok (.aload_n 0, 1) := by decide +kernel
theorem dX8_make_20 : decode cX8_make 20 = .ok (.aload_n 0, 1) := by decide +kernel
theorem dX8_make_21 : decode cX8_make 21 = .ok (.getfield 164, 3) := by decide +kernel
theorem dX8_make_24 : decode cX8_make 24 = .ok (.invokevirtual 155, 3) := by decide +kernel
theorem dX8_make_27 : decode cX8_make 27 = .ok (.aload_n 0, 1) := by decide +kernel
theorem dX8_make_28 : decode cX8_make 28 = .ok (.iconst 0, 1) := by decide +kernel
theorem dX8_make_29 : decode cX8_make 29 = .ok (.putfield 146, 3) := by decide +kernel
theorem dX8_make_32 : decode cX8_make 32 = .ok (.aload_n 0, 1) := by decide +kernel
theorem dX8_make_33 : decode cX8_make 33 = .ok (.getfield 164, 3) := by decide +kernel
theorem dX8_make_36 : decode cX8_make 36 = .ok (.ireturn, 1) := by decide +kernel
theorem dX8_keep_0 : decode cX8_keep 0 = .ok (.iconst 0, 1) := by decide +kernel
theorem dX8_keep_1 : decode cX8_keep 1 = .ok (.istore_n 1, 1) := by decide +kernel
theorem dX8_keep_2 : decode cX8_keep 2 = .ok (.iload_n 1, 1) := by decide +kernel
theorem dX8_keep_3 : decode cX8_keep 3 = .ok (.aload_n 0, 1) := by decide +kernel
theorem dX8_keep_4 : decode cX8_keep 4 = .ok (.getfield 70, 3) := by decide +kernel
theorem dX8_keep_7 : decode cX8_keep 7 = .ok (.if_icmp .ge 20, 3) := by decide +kernel
theorem dX8_keep_10 : decode cX8_keep 10 = .ok (.aload_n 0, 1) := by decide +kernel
theorem dX8_keep_11 : decode cX8_keep 11 = .ok (.getfield 26, 3) := by decide +kernel
theorem dX8_keep_14 : decode cX8_keep 14 = .ok (.iload_n 1, 1) := by decide +kernel
theorem dX8_keep_15 : decode cX8_keep 15 = .ok (.aload_n 0, 1) := by decide +kernel
theorem dX8_keep_16 : decode cX8_keep 16 = .ok (.iload_n 1, 1) := by decide +kernel
theorem dX8_keep_17 : decode cX8_keep 17 = .ok (.invokevirtual 116, 3) := by decide +kernel
theorem dX8_keep_20 : decode cX8_keep 20 = .ok (.iastore, 1) := by decide +kernel
theorem dX8_keep_21 : decode cX8_keep 21 = .ok (.iinc 1 1, 3) := by decide +kernel
theorem dX8_keep_24 : decode cX8_keep 24 = .ok (.goto (-22), 3) := by decide +kernel
theorem dX8_keep_27 : decode cX8_keep 27 = .ok (.aload_n 0, 1) := by decide +kernel
theorem dX8_keep_28 : decode cX8_keep 28 = .ok (.aload_n 0, 1) := by decide +kernel
theorem dX8_keep_29 : decode cX8_keep 29 = .ok (.getfield 70, 3) := by decide +kernel
theorem dX8_keep_32 : decode cX8_keep 32 = .ok (.putfield 170, 3) := by decide +kernel
theorem dX8_keep_35 : decode cX8_keep 35 = .ok (.aload_n 0, 1) := by decide +kernel
theorem dX8_keep_36 : decode cX8_keep 36 = .ok (.getfield 70, 3) := by decide +kernel
theorem dX8_keep_39 : decode cX8_keep 39 = .ok (.ireturn, 1) := by decide +kernel
theorem dX8_loss_0 : decode cX8_loss 0 = .ok (.iload_n 1, 1) := by decide +kernel
theorem dX8_loss_1 : decode cX8_loss 1 = .ok (.iconst 0, 1) := by decide +kernel
theorem dX8_loss_2 : decode cX8_loss 2 = .ok (.aload_n 0, 1) := by decide +kernel
theorem dX8_loss_3 : decode cX8_loss 3 = .ok (.getfield 170, 3) := by decide +kernel
theorem dX8_loss_6 : decode cX8_loss 6 = .ok (.iconst 1, 1) := by decide +kernel
theorem dX8_loss_7 : decode cX8_loss 7 = .ok (.isub, 1) := by decide +kernel
theorem dX8_loss_8 : decode cX8_loss 8 = .ok (.invokestatic 66, 3) := by decide +kernel
theorem dX8_loss_11 : decode cX8_loss 11 = .ok (.ifCond .eq 18, 3) := by decide +kernel
theorem dX8_loss_14 : decode cX8_loss 14 = .ok (.aload_n 0, 1) := by decide +kernel
theorem dX8_loss_15 : decode cX8_loss 15 = .ok (.getfield 26, 3) := by decide +kernel
theorem dX8_loss_18 : decode cX8_loss 18 = .ok (.iload_n 1, 1) := by decide +kernel
theorem dX8_loss_19 : decode cX8_loss 19 = .ok (.iaload, 1) := by decide +kernel
theorem dX8_loss_20 : decode cX8_loss 20 = .ok (.aload_n 0, 1) := by decide +kernel
theorem dX8_loss_21 : decode cX8_loss 21 = .ok (.iload_n 1, 1) := by decide +kernel
theorem dX8_loss_22 : decode cX8_loss 22 = .ok (.invokevirtual 116, 3) := by decide +kernel
theorem dX8_loss_25 : decode cX8_loss 25 = .ok (.isub, 1) := by decide +kernel
theorem dX8_loss_26 : decode cX8_loss 26 = .ok (.goto 5, 3) := by decide +kernel
theorem dX8_loss_29 : decode cX8_loss 29 = .ok (.ldc 173, 2) := by decide +kernel
theorem dX8_loss_31 : decode cX8_loss 31 = .ok (.ireturn, 1) := by decide +kernel
theorem dX8_count_0 : decode cX8_count 0 = .ok (.iconst 0, 1) := by decide +kernel
theorem dX8_count_1 : decode cX8_count 1 = .ok (.istore_n 2, 1) := by decide +kernel
theorem dX8_count_2 : decode cX8_count 2 = .ok (.iload_n 1, 1) := by decide +kernel
theorem dX8_count_3 : decode cX8_count 3 = .ok (.tableswitch 144 0 4 #[33, 38, 43, 76, 110], 33) := by decide +kernel
theorem dX8_count_36 : decode cX8_count 36 = .ok (.aload_n 0, 1) := by decide +kernel
theorem dX8_count_37 : decode cX8_count 37 = .ok (.getfield 70, 3) := by decide +kernel
theorem dX8_count_40 : decode cX8_count 40 = .ok (.ireturn, 1) := by decide +kernel
theorem dX8_count_41 : decode cX8_count 41 = .ok (.aload_n 0, 1) := by decide +kernel
theorem dX8_count_42 : decode cX8_count 42 = .ok (.getfield 146, 3) := by decide +kernel
theorem dX8_count_45 : decode cX8_count 45 = .ok (.ireturn, 1) := by decide +kernel
theorem dX8_count_46 : decode cX8_count 46 = .ok (.iconst 0, 1) := by decide +kernel
theorem dX8_count_47 : decode cX8_count 47 = .ok (.istore_n 3, 1) := by decide +kernel
theorem dX8_count_48 : decode cX8_count 48 = .ok (.iload_n 3, 1) := by decide +kernel
theorem dX8_count_49 : decode cX8_count 49 = .ok (.bipush 12, 2) := by decide +kernel
theorem dX8_count_51 : decode cX8_count 51 = .ok (.if_icmp .ge 26, 3) := by decide +kernel
theorem dX8_count_54 : decode cX8_count 54 = .ok (.iload_n 2, 1) := by decide +kernel
theorem dX8_count_55 : decode cX8_count 55 = .ok (.aload_n 0, 1) := by decide +kernel
theorem dX8_count_56 : decode cX8_count 56 = .ok (.getfield 38, 3) := by decide +kernel
theorem dX8_count_59 : decode cX8_count 59 = .ok (.iload_n 3, 1) := by decide +kernel
theorem dX8_count_60 : decode cX8_count 60 = .ok (.baload, 1) := by decide +kernel
theorem dX8_count_61 : decode cX8_count 61 = .ok (.ifCond .eq 7, 3) := by decide +kernel
theorem dX8_count_64 : decode cX8_count 64 = .ok (.iconst 1, 1) := by decide +kernel
theorem dX8_count_65 : decode cX8_count 65 = .ok (.goto 4, 3) := by decide +kernel
theorem dX8_count_68 : decode cX8_count 68 = .ok (.iconst 0, 1) := by decide +kernel
theorem dX8_count_69 : decode cX8_count 69 = .ok (.iadd, 1) := by decide +kernel
theorem dX8_count_70 : decode cX8_count 70 = .ok (.istore_n 2, 1) := by decide +kernel
theorem dX8_count_71 : decode cX8_count 71 = .ok (.iinc 3 1, 3) := by decide +kernel
theorem dX8_count_74 : decode cX8_count 74 = .ok (.goto (-26), 3) := by decide +kernel
theorem dX8_count_77 : decode cX8_count 77 = .ok (.iload_n 2, 1) := by decide +kernel
theorem dX8_count_78 : decode cX8_count 78 = .ok (.ireturn, 1) := by decide +kernel
theorem dX8_count_79 : decode cX8_count 79 = .ok (.iconst 0, 1) := by decide +kernel
theorem dX8_count_80 : decode cX8_count 80 = .ok (.istore_n 3, 1) := by decide +kernel
theorem dX8_count_81 : decode cX8_count 81 = .ok (.iload_n 3, 1) := by decide +kernel
theorem dX8_count_82 : decode cX8_count 82 = .ok (.bipush 64, 2) := by decide +kernel
theorem dX8_count_84 : decode cX8_count 84 = .ok (.if_icmp .ge 27, 3) := by decide +kernel
theorem dX8_count_87 : decode cX8_count 87 = .ok (.iload_n 2, 1) := by decide +kernel
theorem dX8_count_88 : decode cX8_count 88 = .ok (.aload_n 0, 1) := by decide +kernel
theorem dX8_count_89 : decode cX8_count 89 = .ok (.getfield 7, 3) := by decide +kernel
theorem dX8_count_92 : decode cX8_count 92 = .ok (.iload_n 3, 1) := by decide +kernel
theorem dX8_count_93 : decode cX8_count 93 = .ok (.iaload, 1) := by decide +kernel
theorem dX8_count_94 : decode cX8_count 94 = .ok (.iconst 1, 1) := by decide +kernel
theorem dX8_count_95 : decode cX8_count 95 = .ok (.if_icmp .ne 7, 3) := by decide +kernel
theorem dX8_count_98 : decode cX8_count 98 = .ok (.iconst 1, 1) := by decide +kernel
theorem dX8_count_99 : decode cX8_count 99 = .ok (.goto 4, 3) := by decide +kernel
theorem dX8_count_102 : decode cX8_count 102 = .ok (.iconst 0, 1) := by decide +kernel
theorem dX8_count_103 : decode cX8_count 103 = .ok (.iadd, 1) := by decide +kernel
theorem dX8_count_104 : decode cX8_count 104 = .ok (.istore_n 2, 1) := by decide +kernel
theorem dX8_count_105 : decode cX8_count 105 = .ok (.iinc 3 1, 3) := by decide +kernel
theorem dX8_count_108 : decode cX8_count 108 = .ok (.goto (-27), 3) := by decide +kernel
theorem dX8_count_111 : decode cX8_count 111 = .ok (.iload_n 2, 1) := by decide +kernel
theorem dX8_count_112 : decode cX8_count 112 = .ok (.ireturn, 1) := by decide +kernel
theorem dX8_count_113 : decode cX8_count 113 = .ok (.iconst 0, 1) := by decide +kernel
theorem dX8_count_114 : decode cX8_count 114 = .ok (.istore_n 3, 1) := by decide +kernel
theorem dX8_count_115 : decode cX8_count 115 = .ok (.iload_n 3, 1) := by decide +kernel
theorem dX8_count_116 : decode cX8_count 116 = .ok (.bipush 64, 2) := by decide +kernel
theorem dX8_count_118 : decode cX8_count 118 = .ok (.if_icmp .ge 27, 3) := by decide +kernel
theorem dX8_count_121 : decode cX8_count 121 = .ok (.iload_n 2, 1) := by decide +kernel
theorem dX8_count_122 : decode cX8_count 122 = .ok (.aload_n 0, 1) := by decide +kernel
theorem dX8_count_123 : decode cX8_count 123 = .ok (.getfield 7, 3) := by decide +kernel
theorem dX8_count_126 : decode cX8_count 126 = .ok (.iload_n 3, 1) := by decide +kernel
theorem dX8_count_127 : decode cX8_count 127 = .ok (.iaload, 1) := by decide +kernel
theorem dX8_count_128 : decode cX8_count 128 = .ok (.iconst 2, 1) := by decide +kernel
theorem dX8_count_129 : decode cX8_count 129 = .ok (.if_icmp .ne 7, 3) := by decide +kernel
theorem dX8_count_132 : decode cX8_count 132 = .ok (.iconst 1, 1) := by decide +kernel
theorem dX8_count_133 : decode cX8_count 133 = .ok (.goto 4, 3) := by decide +kernel
theorem dX8_count_136 : decode cX8_count 136 = .ok (.iconst 0, 1) := by decide +kernel
theorem dX8_count_137 : decode cX8_count 137 = .ok (.iadd, 1) := by decide +kernel
theorem dX8_count_138 : decode cX8_count 138 = .ok (.istore_n 2, 1) := by decide +kernel
theorem dX8_count_139 : decode cX8_count 139 = .ok (.iinc 3 1, 3) := by decide +kernel
theorem dX8_count_142 : decode cX8_count 142 = .ok (.goto (-27), 3) := by decide +kernel
theorem dX8_count_145 : decode cX8_count 145 = .ok (.iload_n 2, 1) := by decide +kernel
theorem dX8_count_146 : decode cX8_count 146 = .ok (.ireturn, 1) := by decide +kernel
theorem dX8_count_147 : decode cX8_count 147 = .ok (.bipush (-3), 2) := by decide +kernel
theorem dX8_count_149 : decode cX8_count 149 = .ok (.ireturn, 1) := by decide +kernel

theorem dX0_init_0 : decode cX0_init 0 = .ok (.aload_n 0, 1) := by decide +kernel
theorem dX0_init_1 : decode cX0_init 1 = .ok (.invokespecial 3, 3) := by decide +kernel
theorem dX0_init_4 : decode cX0_init 4 = .ok (.aload_n 0, 1) := by decide +kernel
theorem dX0_init_5 : decode cX0_init 5 = .ok (.bipush 12, 2) := by decide +kernel
theorem dX0_init_7 : decode cX0_init 7 = .ok (.newarray .long, 2) := by decide +kernel
theorem dX0_init_9 : decode cX0_init 9 = .ok (.putfield 9, 3) := by decide +kernel
theorem dX0_init_12 : decode cX0_init 12 = .ok (.aload_n 0, 1) := by decide +kernel
theorem dX0_init_13 : decode cX0_init 13 = .ok (.sipush 300, 3) := by decide +kernel
theorem dX0_init_16 : decode cX0_init 16 = .ok (.putfield 15, 3) := by decide +kernel
theorem dX0_init_19 : decode cX0_init 19 = .ok (.aload_n 0, 1) := by decide +kernel
theorem dX0_init_20 : decode cX0_init 20 = .ok (.bipush 100, 2) := by decide +kernel
theorem dX0_init_22 : decode cX0_init 22 = .ok (.putfield 19, 3) := by decide +kernel
theorem dX0_init_25 : decode cX0_init 25 = .ok (.return_, 1) := by decide +kernel
theorem dX0_follow_0 : decode cX0_follow 0 = .ok (.lconst 0, 1) := by decide +kernel
theorem dX0_follow_1 : decode cX0_follow 1 = .ok (.lstore 6, 2) := by decide +kernel
theorem dX0_follow_3 : decode cX0_follow 3 = .ok (.iconst 0, 1) := by decide +kernel
theorem dX0_follow_4 : decode cX0_follow 4 = .ok (.istore 8, 2) := by decide +kernel
theorem dX0_follow_6 : decode cX0_follow 6 = .ok (.iload 8, 2) := by decide +kernel
theorem dX0_follow_8 : decode cX0_follow 8 = .ok (.bipush 12, 2) := by decide +kernel
theorem dX0_follow_10 : decode cX0_follow 10 = .ok (.if_icmp .ge 57, 3) := by decide +kernel
theorem dX0_follow_13 : decode cX0_follow 13 = .ok (.aload_n 1, 1) := by decide +kernel
theorem dX0_follow_14 : decode cX0_follow 14 = .ok (.getfield 22, 3) := by decide +kernel
theorem dX0_follow_17 : decode cX0_follow 17 = .ok (.iload 8, 2) := by decide +kernel
theorem dX0_follow_19 : decode cX0_follow 19 = .ok (.baload, 1) := by decide +kernel
theorem dX0_follow_20 : decode cX0_follow 20 = .ok (.ifCond .ne 32, 3) := by decide +kernel
theorem dX0_follow_23 : decode cX0_follow 23 = .ok (.aload_n 1, 1) := by decide +kernel
theorem dX0_follow_24 : decode cX0_follow 24 = .ok (.iload 8, 2) := by decide +kernel
theorem dX0_follow_26 : decode cX0_follow 26 = .ok (.invokevirtual 28, 3) := by decide +kernel
theorem dX0_follow_29 : decode cX0_follow 29 = .ok (.ifCond .eq 20, 3) := by decide +kernel
theorem dX0_follow_32 : decode cX0_follow 32 = .ok (.aload_n 0, 1) := by decide +kernel
theorem dX0_follow_33 : decode cX0_follow 33 = .ok (.lload 6, 2) := by decide +kernel
theorem dX0_follow_35 : decode cX0_follow 35 = .ok (.aload_n 1, 1) := by decide +kernel
theorem dX0_follow_36 : decode cX0_follow 36 = .ok (.iload 8, 2) := by decide +kernel
theorem dX0_follow_38 : decode cX0_follow 38 = .ok (.aload_n 2, 1) := by decide +kernel
theorem dX0_follow_39 : decode cX0_follow 39 = .ok (.iload_n 3, 1) := by decide +kernel
theorem dX0_follow_40 : decode cX0_follow 40 = .ok (.invokevirtual 32, 3) := by decide +kernel
theorem dX0_follow_43 : decode cX0_follow 43 = .ok (.lload 4, 2) := by decide +kernel
theorem dX0_follow_45 : decode cX0_follow 45 = .ok (.land, 1) := by decide +kernel
theorem dX0_follow_46 : decode cX0_follow 46 = .ok (.goto 4, 3) := by decide +kernel
theorem dX0_follow_49 : decode cX0_follow 49 = .ok (.lconst 0, 1) := by decide +kernel
theorem dX0_follow_50 : decode cX0_follow 50 = .ok (.lstore 6, 2) := by decide +kernel
theorem dX0_follow_52 : decode cX0_follow 52 = .ok (.aload_n 0, 1) := by decide +kernel
theorem dX0_follow_53 : decode cX0_follow 53 = .ok (.getfield 9, 3) := by decide +kernel
theorem dX0_follow_56 : decode cX0_follow 56 = .ok (.iload 8, 2) := by decide +kernel
theorem dX0_follow_58 : decode cX0_follow 58 = .ok (.lload 6, 2) := by decide +kernel
theorem dX0_follow_60 : decode cX0_follow 60 = .ok (.lastore, 1) := by decide +kernel
theorem dX0_follow_61 : decode cX0_follow 61 = .ok (.iinc 8 1, 3) := by decide +kernel
theorem dX0_follow_64 : decode cX0_follow 64 = .ok (.goto (-58), 3) := by decide +kernel
theorem dX0_follow_67 : decode cX0_follow 67 = .ok (.return_, 1) := by decide +kernel
theorem dX0_next_0 : decode cX0_next 0 = .ok (.aload_n 3, 1) := by decide +kernel
theorem dX0_next_1 : decode cX0_next 1 = .ok (.getfield 36, 3) := by decide +kernel
theorem dX0_next_4 : decode cX0_next 4 = .ok (.iload 4, 2) := by decide +kernel
theorem dX0_next_6 : decode cX0_next 6 = .ok (.iaload, 1) := by decide +kernel
theorem dX0_next_7 : decode cX0_next 7 = .ok (.istore 7, 2) := by decide +kernel
theorem dX0_next_9 : decode cX0_next 9 = .ok (.aload_n 3, 1) := by decide +kernel
theorem dX0_next_10 : decode cX0_next 10 = .ok (.getfield 40, 3) := by decide +kernel
theorem dX0_next_13 : decode cX0_next 13 = .ok (.iload 4, 2) := by decide +kernel
theorem dX0_next_15 : decode cX0_next 15 = .ok (.iaload, 1) := by decide +kernel
theorem dX0_next_16 : decode cX0_next 16 = .ok (.istore 8, 2) := by decide +kernel
theorem dX0_next_18 : decode cX0_next 18 = .ok (.aload 5, 2) := by decide +kernel
theorem dX0_next_20 : decode cX0_next 20 = .ok (.aload_n 0, 1) := by decide +kernel
theorem dX0_next_21 : decode cX0_next 21 = .ok (.getfield 15, 3) := by decide +kernel
theorem dX0_next_24 : decode cX0_next 24 = .ok (.iload 6, 2) := by decide +kernel
theorem dX0_next_26 : decode cX0_next 26 = .ok (.iload 7, 2) := by decide +kernel
theorem dX0_next_28 : decode cX0_next 28 = .ok (.iload 8, 2) := by decide +kernel
theorem dX0_next_30 : decode cX0_next 30 = .ok (.invokevirtual 43, 3) := by decide +kernel
theorem dX0_next_33 : decode cX0_next 33 = .ok (.lstore 9, 2) := by decide +kernel
theorem dX0_next_35 : decode cX0_next 35 = .ok (.aload 5, 2) := by decide +kernel
theorem dX0_next_37 : decode cX0_next 37 = .ok (.aload_n 0, 1) := by decide +kernel
theorem dX0_next_38 : decode cX0_next 38 = .ok (.getfield 19, 3) := by decide +kernel
theorem dX0_next_41 : decode cX0_next 41 = .ok (.iload 6, 2) := by decide +kernel
theorem dX0_next_43 : decode cX0_next 43 = .ok (.iload 7, 2) := by decide +kernel
theorem dX0_next_45 : decode cX0_next 45 = .ok (.iload 8, 2) := by decide +kernel
theorem dX0_next_47 : decode cX0_next 47 = .ok (.invokevirtual 43, 3) := by decide +kernel
theorem dX0_next_50 : decode cX0_next 50 = .ok (.lstore 11, 2) := by decide +kernel
theorem dX0_next_52 : decode cX0_next 52 = .ok (.lload_n 1, 1) := by decide +kernel
theorem dX0_next_53 : decode cX0_next 53 = .ok (.ldc2_w 49, 3) := by decide +kernel
theorem dX0_next_56 : decode cX0_next 56 = .ok (.lxor, 1) := by decide +kernel
theorem dX0_next_57 : decode cX0_next 57 = .ok (.lload 9, 2) := by decide +kernel
theorem dX0_next_59 : decode cX0_next 59 = .ok (.land, 1) := by decide +kernel
theorem dX0_next_60 : decode cX0_next 60 = .ok (.lload_n 1, 1) := by decide +kernel
theorem dX0_next_61 : decode cX0_next 61 = .ok (.lload 11, 2) := by decide +kernel
theorem dX0_next_63 : decode cX0_next 63 = .ok (.land, 1) := by decide +kernel
theorem dX0_next_64 : decode cX0_next 64 = .ok (.lor, 1) := by decide +kernel
theorem dX0_next_65 : decode cX0_next 65 = .ok (.lreturn, 1) := by decide +kernel
theorem dX1_init_0 : decode cX1_init 0 = .ok (.aload_n 0, 1) := by decide +kernel
theorem dX1_init_1 : decode cX1_init 1 = .ok (.invokespecial 3, 3) := by decide +kernel
theorem dX1_init_4 : decode cX1_init 4 = .ok (.aload_n 0, 1) := by decide +kernel
theorem dX1_init_5 : decode cX1_init 5 = .ok (.iconst 4, 1) := by decide +kernel
theorem dX1_init_6 : decode cX1_init 6 = .ok (.newarray .int, 2) := by decide +kernel
theorem dX1_init_8 : decode cX1_init 8 = .ok (.putfield 9, 3) := by decide +kernel
theorem dX1_init_11 : decode cX1_init 11 = .ok (.aload_n 0, 1) := by decide +kernel
theorem dX1_init_12 : decode cX1_init 12 = .ok (.iconst 4, 1) := by decide +kernel
theorem dX1_init_13 : decode cX1_init 13 = .ok (.newarray .int, 2) := by decide +kernel
theorem dX1_init_15 : decode cX1_init 15 = .ok (.putfield 15, 3) := by decide +kernel
theorem dX1_init_18 : decode cX1_init 18 = .ok (.aload_n 0, 1) := by decide +kernel
theorem dX1_init_19 : decode cX1_init 19 = .ok (.iconst 4, 1) := by decide +kernel
theorem dX1_init_20 : decode cX1_init 20 = .ok (.newarray .int, 2) := by decide +kernel
theorem dX1_init_22 : decode cX1_init 22 = .ok (.putfield 18, 3) := by decide +kernel
theorem dX1_init_25 : decode cX1_init 25 = .ok (.aload_n 0, 1) := by decide +kernel
theorem dX1_init_26 : decode cX1_init 26 = .ok (.iconst 0, 1) := by decide +kernel
theorem dX1_init_27 : decode cX1_init 27 = .ok (.putfield 21, 3) := by decide +kernel
theorem dX1_init_30 : decode cX1_init 30 = .ok (.aload_n 0, 1) := by decide +kernel
theorem dX1_init_31 : decode cX1_init 31 = .ok (.iconst 0, 1) := by decide +kernel
theorem dX1_init_32 : decode cX1_init 32 = .ok (.putfield 25, 3) := by decide +kernel
theorem dX1_init_35 : decode cX1_init 35 = .ok (.return_, 1) := by decide +kernel
theorem dX1_has_0 : decode cX1_has 0 = .ok (.iload_n 1, 1) := by decide +kernel
theorem dX1_has_1 : decode cX1_has 1 = .ok (.ifCond .lt 15, 3) := by decide +kernel
theorem dX1_has_4 : decode cX1_has 4 = .ok (.iload_n 1, 1) := by decide +kernel
theorem dX1_has_5 : decode cX1_has 5 = .ok (.aload_n 0, 1) := by decide +kernel
theorem dX1_has_6 : decode cX1_has 6 = .ok (.getfield 21, 3) := by decide +kernel
theorem dX1_has_9 : decode cX1_has 9 = .ok (.if_icmp .ge 7, 3) := by decide +kernel
theorem dX1_has_12 : decode cX1_has 12 = .ok (.iconst 1, 1) := by decide +kernel
theorem dX1_has_13 : decode cX1_has 13 = .ok (.goto 4, 3) := by decide +kernel
theorem dX1_has_16 : decode cX1_has 16 = .ok (.iconst 0, 1) := by decide +kernel
theorem dX1_has_17 : decode cX1_has 17 = .ok (.ireturn, 1) := by decide +kernel
theorem dX1_put_0 : decode cX1_put 0 = .ok (.aload_n 0, 1) := by decide +kernel
theorem dX1_put_1 : decode cX1_put 1 = .ok (.getfield 9, 3) := by decide +kernel
theorem dX1_put_4 : decode cX1_put 4 = .ok (.iload_n 1, 1) := by decide +kernel
theorem dX1_put_5 : decode cX1_put 5 = .ok (.iload_n 2, 1) := by decide +kernel
theorem dX1_put_6 : decode cX1_put 6 = .ok (.iastore, 1) := by decide +kernel
theorem dX1_put_7 : decode cX1_put 7 = .ok (.aload_n 0, 1) := by decide +kernel
theorem dX1_put_8 : decode cX1_put 8 = .ok (.getfield 15, 3) := by decide +kernel
theorem dX1_put_11 : decode cX1_put 11 = .ok (.iload_n 1, 1) := by decide +kernel
theorem dX1_put_12 : decode cX1_put 12 = .ok (.iload_n 3, 1) := by decide +kernel
theorem dX1_put_13 : decode cX1_put 13 = .ok (.iastore, 1) := by decide +kernel
theorem dX1_put_14 : decode cX1_put 14 = .ok (.return_, 1) := by decide +kernel
theorem dX2_init_0 : decode cX2_init 0 = .ok (.aload_n 0, 1) := by decide +kernel
theorem dX2_init_1 : decode cX2_init 1 = .ok (.invokespecial 3, 3) := by decide +kernel
theorem dX2_init_4 : decode cX2_init 4 = .ok (.aload_n 0, 1) := by decide +kernel
theorem dX2_init_5 : decode cX2_init 5 = .ok (.iconst 0, 1) := by decide +kernel
theorem dX2_init_6 : decode cX2_init 6 = .ok (.putfield 9, 3) := by decide +kernel
theorem dX2_init_9 : decode cX2_init 9 = .ok (.aload_n 0, 1) := by decide +kernel
theorem dX2_init_10 : decode cX2_init 10 = .ok (.iconst 0, 1) := by decide +kernel
theorem dX2_init_11 : decode cX2_init 11 = .ok (.putfield 15, 3) := by decide +kernel
theorem dX2_init_14 : decode cX2_init 14 = .ok (.aload_n 0, 1) := by decide +kernel
theorem dX2_init_15 : decode cX2_init 15 = .ok (.iconst (-1), 1) := by decide +kernel
theorem dX2_init_16 : decode cX2_init 16 = .ok (.putfield 18, 3) := by decide +kernel
theorem dX2_init_19 : decode cX2_init 19 = .ok (.return_, 1) := by decide +kernel
theorem dX2_clear_0 : decode cX2_clear 0 = .ok (.aload_n 0, 1) := by decide +kernel
theorem dX2_clear_1 : decode cX2_clear 1 = .ok (.iconst 0, 1) := by decide +kernel
theorem dX2_clear_2 : decode cX2_clear 2 = .ok (.putfield 9, 3) := by decide +kernel
theorem dX2_clear_5 : decode cX2_clear 5 = .ok (.aload_n 0, 1) := by decide +kernel
theorem dX2_clear_6 : decode cX2_clear 6 = .ok (.iconst 0, 1) := by decide +kernel
theorem dX2_clear_7 : decode cX2_clear 7 = .ok (.putfield 15, 3) := by decide +kernel
theorem dX2_clear_10 : decode cX2_clear 10 = .ok (.aload_n 0, 1) := by decide +kernel
theorem dX2_clear_11 : decode cX2_clear 11 = .ok (.iconst (-1), 1) := by decide +kernel
theorem dX2_clear_12 : decode cX2_clear 12 = .ok (.putfield 18, 3) := by decide +kernel
theorem dX2_clear_15 : decode cX2_clear 15 = .ok (.return_, 1) := by decide +kernel
theorem dX2_weigh_0 : decode cX2_weigh 0 = .ok (.iload_n 3, 1) := by decide +kernel
theorem dX2_weigh_1 : decode cX2_weigh 1 = .ok (.aload_n 0, 1) := by decide +kernel
theorem dX2_weigh_2 : decode cX2_weigh 2 = .ok (.getfield 18, 3) := by decide +kernel
theorem dX2_weigh_5 : decode cX2_weigh 5 = .ok (.if_icmp .gt 19, 3) := by decide +kernel
theorem dX2_weigh_8 : decode cX2_weigh 8 = .ok (.iload_n 3, 1) := by decide +kernel
theorem dX2_weigh_9 : decode cX2_weigh 9 = .ok (.aload_n 0, 1) := by decide +kernel
theorem dX2_weigh_10 : decode cX2_weigh 10 = .ok (.getfield 18, 3) := by decide +kernel
theorem dX2_weigh_13 : decode cX2_weigh 13 = .ok (.if_icmp .ne 26, 3) := by decide +kernel
theorem dX2_weigh_16 : decode cX2_weigh 16 = .ok (.iload_n 2, 1) := by decide +kernel
theorem dX2_weigh_17 : decode cX2_weigh 17 = .ok (.aload_n 0, 1) := by decide +kernel
theorem dX2_weigh_18 : decode cX2_weigh 18 = .ok (.getfield 15, 3) := by decide +kernel
theorem dX2_weigh_21 : decode cX2_weigh 21 = .ok (.if_icmp .ge 18, 3) := by decide +kernel
theorem dX2_weigh_24 : decode cX2_weigh 24 = .ok (.aload_n 0, 1) := by decide +kernel
theorem dX2_weigh_25 : decode cX2_weigh 25 = .ok (.iload_n 1, 1) := by decide +kernel
theorem dX2_weigh_26 : decode cX2_weigh 26 = .ok (.putfield 9, 3) := by decide +kernel
theorem dX2_weigh_29 : decode cX2_weigh 29 = .ok (.aload_n 0, 1) := by decide +kernel
theorem dX2_weigh_30 : decode cX2_weigh 30 = .ok (.iload_n 2, 1) := by decide +kernel
theorem dX2_weigh_31 : decode cX2_weigh 31 = .ok (.putfield 15, 3) := by decide +kernel
theorem dX2_weigh_34 : decode cX2_weigh 34 = .ok (.aload_n 0, 1) := by decide +kernel
theorem dX2_weigh_35 : decode cX2_weigh 35 = .ok (.iload_n 3, 1) := by decide +kernel
theorem dX2_weigh_36 : decode cX2_weigh 36 = .ok (.putfield 18, 3) := by decide +kernel
theorem dX2_weigh_39 : decode cX2_weigh 39 = .ok (.return_, 1) := by decide +kernel
theorem dX3_init_0 : decode cX3_init 0 = .ok (.aload_n 0, 1) := by decide +kernel
theorem dX3_init_1 : decode cX3_init 1 = .ok (.invokespecial 3, 3) := by decide +kernel
theorem dX3_init_4 : decode cX3_init 4 = .ok (.aload_n 0, 1) := by decide +kernel
theorem dX3_init_5 : decode cX3_init 5 = .ok (.bipush 12, 2) := by decide +kernel
theorem dX3_init_7 : decode cX3_init 7 = .ok (.newarray .int, 2) := by decide +kernel
theorem dX3_init_9 : decode cX3_init 9 = .ok (.putfield 9, 3) := by decide +kernel
theorem dX3_init_12 : decode cX3_init 12 = .ok (.aload_n 0, 1) := by decide +kernel
theorem dX3_init_13 : decode cX3_init 13 = .ok (.bipush 12, 2) := by decide +kernel
theorem dX3_init_15 : decode cX3_init 15 = .ok (.newarray .int, 2) := by decide +kernel
theorem dX3_init_17 : decode cX3_init 17 = .ok (.putfield 15, 3) := by decide +kernel
theorem dX3_init_20 : decode cX3_init 20 = .ok (.aload_n 0, 1) := by decide +kernel
theorem dX3_init_21 : decode cX3_init 21 = .ok (.bipush 12, 2) := by decide +kernel
theorem dX3_init_23 : decode cX3_init 23 = .ok (.newarray .int, 2) := by decide +kernel
theorem dX3_init_25 : decode cX3_init 25 = .ok (.putfield 18, 3) := by decide +kernel
theorem dX3_init_28 : decode cX3_init 28 = .ok (.aload_n 0, 1) := by decide +kernel
theorem dX3_init_29 : decode cX3_init 29 = .ok (.bipush 12, 2) := by decide +kernel
theorem dX3_init_31 : decode cX3_init 31 = .ok (.newarray .boolean, 2) := by decide +kernel
theorem dX3_init_33 : decode cX3_init 33 = .ok (.putfield 21, 3) := by decide +kernel
theorem dX3_init_36 : decode cX3_init 36 = .ok (.aload_n 0, 1) := by decide +kernel
theorem dX3_init_37 : decode cX3_init 37 = .ok (.sipush 1000, 3) := by decide +kernel
theorem dX3_init_40 : decode cX3_init 40 = .ok (.putfield 25, 3) := by decide +kernel
theorem dX3_init_43 : decode cX3_init 43 = .ok (.aload_n 0, 1) := by decide +kernel
theorem dX3_init_44 : decode cX3_init 44 = .ok (.sipush 300, 3) := by decide +kernel
theorem dX3_init_47 : decode cX3_init 47 = .ok (.putfield 29, 3) := by decide +kernel
theorem dX3_init_50 : decode cX3_init 50 = .ok (.return_, 1) := by decide +kernel
theorem dX3_hasSun_0 : decode cX3_hasSun 0 = .ok (.aload_n 0, 1) := by decide +kernel
theorem dX3_hasSun_1 : decode cX3_hasSun 1 = .ok (.getfield 21, 3) := by decide +kernel
theorem dX3_hasSun_4 : decode cX3_hasSun 4 = .ok (.iload_n 1, 1) := by decide +kernel
theorem dX3_hasSun_5 : decode cX3_hasSun 5 = .ok (.baload, 1) := by decide +kernel
theorem dX3_hasSun_6 : decode cX3_hasSun 6 = .ok (.ifCond .ne 16, 3) := by decide +kernel
theorem dX3_hasSun_9 : decode cX3_hasSun 9 = .ok (.aload_n 0, 1) := by decide +kernel
theorem dX3_hasSun_10 : decode cX3_hasSun 10 = .ok (.getfield 18, 3) := by decide +kernel
theorem dX3_hasSun_13 : decode cX3_hasSun 13 = .ok (.iload_n 1, 1) := by decide +kernel
theorem dX3_hasSun_14 : decode cX3_hasSun 14 = .ok (.iaload, 1) := by decide +kernel
theorem dX3_hasSun_15 : decode cX3_hasSun 15 = .ok (.ifCond .le 7, 3) := by decide +kernel
theorem dX3_hasSun_18 : decode cX3_hasSun 18 = .ok (.iconst 1, 1) := by decide +kernel
theorem dX3_hasSun_19 : decode cX3_hasSun 19 = .ok (.goto 4, 3) := by decide +kernel
theorem dX3_hasSun_22 : decode cX3_hasSun 22 = .ok (.iconst 0, 1) := by decide +kernel
theorem dX3_hasSun_23 : decode cX3_hasSun 23 = .ok (.ireturn, 1) := by decide +kernel
theorem dX3_howManyLost_0 : decode cX3_howManyLost 0 = .ok (.iconst 0, 1) := by decide +kernel
theorem dX3_howManyLost_1 : decode cX3_howManyLost 1 = .ok (.istore_n 1, 1) := by decide +kernel
theorem dX3_howManyLost_2 : decode cX3_howManyLost 2 = .ok (.iconst 0, 1) := by decide +kernel
theorem dX3_howManyLost_3 : decode cX3_howManyLost 3 = .ok (.istore_n 2, 1) := by decide +kernel
theorem dX3_howManyLost_4 : decode cX3_howManyLost 4 = .ok (.iload_n 2, 1) := by decide +kernel
theorem dX3_howManyLost_5 : decode cX3_howManyLost 5 = .ok (.bipush 12, 2) := by decide +kernel
theorem dX3_howManyLost_7 : decode cX3_howManyLost 7 = .ok (.if_icmp .ge 21, 3) := by decide +kernel
theorem dX3_howManyLost_10 : decode cX3_howManyLost 10 = .ok (.aload_n 0, 1) := by decide +kernel
theorem dX3_howManyLost_11 : decode cX3_howManyLost 11 = .ok (.getfield 21, 3) := by decide +kernel
theorem dX3_howManyLost_14 : decode cX3_howManyLost 14 = .ok (.iload_n 2, 1) := by decide +kernel
theorem dX3_howManyLost_15 : decode cX3_howManyLost 15 = .ok (.baload, 1) := by decide +kernel
theorem dX3_howManyLost_16 : decode cX3_howManyLost 16 = .ok (.ifCond .eq 6, 3) := by decide +kernel
theorem dX3_howManyLost_19 : decode cX3_howManyLost 19 = .ok (.iinc 1 1, 3) := by decide +kernel
theorem dX3_howManyLost_22 : decode cX3_howManyLost 22 = .ok (.iinc 2 1, 3) := by decide +kernel
theorem dX3_howManyLost_25 : decode cX3_howManyLost 25 = .ok (.goto (-21), 3) := by decide +kernel
theorem dX3_howManyLost_28 : decode cX3_howManyLost 28 = .ok (.iload_n 1, 1) := by decide +kernel
theorem dX3_howManyLost_29 : decode cX3_howManyLost 29 = .ok (.ireturn, 1) := by decide +kernel
theorem dX4_init_0 : decode cX4_init 0 = .ok (.aload_n 0, 1) := by decide +kernel
theorem dX4_init_1 : decode cX4_init 1 = .ok (.invokespecial 3, 3) := by decide +kernel
theorem dX4_init_4 : decode cX4_init 4 = .ok (.aload_n 0, 1) := by decide +kernel
theorem dX4_init_5 : decode cX4_init 5 = .ok (.iconst 5, 1) := by decide +kernel
theorem dX4_init_6 : decode cX4_init 6 = .ok (.newarray .int, 2) := by decide +kernel
theorem dX4_init_8 : decode cX4_init 8 = .ok (.putfield 9, 3) := by decide +kernel
theorem dX4_init_11 : decode cX4_init 11 = .ok (.aload_n 0, 1) := by decide +kernel
theorem dX4_init_12 : decode cX4_init 12 = .ok (.iconst 5, 1) := by decide +kernel
theorem dX4_init_13 : decode cX4_init 13 = .ok (.newarray .int, 2) := by decide +kernel
theorem dX4_init_15 : decode cX4_init 15 = .ok (.putfield 15, 3) := by decide +kernel
theorem dX4_init_18 : decode cX4_init 18 = .ok (.aload_n 0, 1) := by decide +kernel
theorem dX4_init_19 : decode cX4_init 19 = .ok (.iconst 5, 1) := by decide +kernel
theorem dX4_init_20 : decode cX4_init 20 = .ok (.newarray .int, 2) := by decide +kernel
theorem dX4_init_22 : decode cX4_init 22 = .ok (.putfield 18, 3) := by decide +kernel
theorem dX4_init_25 : decode cX4_init 25 = .ok (.aload_n 0, 1) := by decide +kernel
theorem dX4_init_26 : decode cX4_init 26 = .ok (.iconst 0, 1) := by decide +kernel
theorem dX4_init_27 : decode cX4_init 27 = .ok (.putfield 21, 3) := by decide +kernel
theorem dX4_init_30 : decode cX4_init 30 = .ok (.return_, 1) := by decide +kernel
theorem dX4_add_0 : decode cX4_add 0 = .ok (.aload_n 0, 1) := by decide +kernel
theorem dX4_add_1 : decode cX4_add 1 = .ok (.getfield 21, 3) := by decide +kernel
theorem dX4_add_4 : decode cX4_add 4 = .ok (.istore 4, 2) := by decide +kernel
theorem dX4_add_6 : decode cX4_add 6 = .ok (.aload_n 0, 1) := by decide +kernel
theorem dX4_add_7 : decode cX4_add 7 = .ok (.getfield 9, 3) := by decide +kernel
theorem dX4_add_10 : decode cX4_add 10 = .ok (.iload 4, 2) := by decide +kernel
theorem dX4_add_12 : decode cX4_add 12 = .ok (.iload_n 1, 1) := by decide +kernel
theorem dX4_add_13 : decode cX4_add 13 = .ok (.iastore, 1) := by decide +kernel
theorem dX4_add_14 : decode cX4_add 14 = .ok (.aload_n 0, 1) := by decide +kernel
theorem dX4_add_15 : decode cX4_add 15 = .ok (.getfield 15, 3) := by decide +kernel
theorem dX4_add_18 : decode cX4_add 18 = .ok (.iload 4, 2) := by decide +kernel
theorem dX4_add_20 : decode cX4_add 20 = .ok (.iload_n 2, 1) := by decide +kernel
theorem dX4_add_21 : decode cX4_add 21 = .ok (.iastore, 1) := by decide +kernel
theorem dX4_add_22 : decode cX4_add 22 = .ok (.aload_n 0, 1) := by decide +kernel
theorem dX4_add_23 : decode cX4_add 23 = .ok (.getfield 18, 3) := by decide +kernel
theorem dX4_add_26 : decode cX4_add 26 = .ok (.iload 4, 2) := by decide +kernel
theorem dX4_add_28 : decode cX4_add 28 = .ok (.iload_n 3, 1) := by decide +kernel
theorem dX4_add_29 : decode cX4_add 29 = .ok (.iastore, 1) := by decide +kernel
theorem dX4_add_30 : decode cX4_add 30 = .ok (.aload_n 0, 1) := by decide +kernel
theorem dX4_add_31 : decode cX4_add 31 = .ok (.dup, 1) := by decide +kernel
theorem dX4_add_32 : decode cX4_add 32 = .ok (.getfield 21, 3) := by decide +kernel
theorem dX4_add_35 : decode cX4_add 35 = .ok (.iconst 1, 1) := by decide +kernel
theorem dX4_add_36 : decode cX4_add 36 = .ok (.iadd, 1) := by decide +kernel
theorem dX4_add_37 : decode cX4_add 37 = .ok (.putfield 21, 3) := by decide +kernel
theorem dX4_add_40 : decode cX4_add 40 = .ok (.iload 4, 2) := by decide +kernel
theorem dX4_add_42 : decode cX4_add 42 = .ok (.ireturn, 1) := by decide +kernel
theorem dX4_costOf_0 : decode cX4_costOf 0 = .ok (.iconst 0, 1) := by decide +kernel
theorem dX4_costOf_1 : decode cX4_costOf 1 = .ok (.istore_n 2, 1) := by decide +kernel
theorem dX4_costOf_2 : decode cX4_costOf 2 = .ok (.iconst 0, 1) := by decide +kernel
theorem dX4_costOf_3 : decode cX4_costOf 3 = .ok (.istore_n 3, 1) := by decide +kernel
theorem dX4_costOf_4 : decode cX4_costOf 4 = .ok (.iload_n 3, 1) := by decide +kernel
theorem dX4_costOf_5 : decode cX4_costOf 5 = .ok (.aload_n 0, 1) := by decide +kernel
theorem dX4_costOf_6 : decode cX4_costOf 6 = .ok (.getfield 21, 3) := by decide +kernel
theorem dX4_costOf_9 : decode cX4_costOf 9 = .ok (.if_icmp .ge 27, 3) := by decide +kernel
theorem dX4_costOf_12 : decode cX4_costOf 12 = .ok (.iload_n 1, 1) := by decide +kernel
theorem dX4_costOf_13 : decode cX4_costOf 13 = .ok (.i2l, 1) := by decide +kernel
theorem dX4_costOf_14 : decode cX4_costOf 14 = .ok (.iload_n 3, 1) := by decide +kernel
theorem dX4_costOf_15 : decode cX4_costOf 15 = .ok (.invokestatic 25, 3) := by decide +kernel
theorem dX4_costOf_18 : decode cX4_costOf 18 = .ok (.ifCond .eq 12, 3) := by decide +kernel
theorem dX4_costOf_21 : decode cX4_costOf 21 = .ok (.iload_n 2, 1) := by decide +kernel
theorem dX4_costOf_22 : decode cX4_costOf 22 = .ok (.aload_n 0, 1) := by decide +kernel
theorem dX4_costOf_23 : decode cX4_costOf 23 = .ok (.getfield 18, 3) := by decide +kernel
theorem dX4_costOf_26 : decode cX4_costOf 26 = .ok (.iload_n 3, 1) := by decide +kernel
theorem dX4_costOf_27 : decode cX4_costOf 27 = .ok (.iaload, 1) := by decide +kernel
theorem dX4_costOf_28 : decode cX4_costOf 28 = .ok (.iadd, 1) := by decide +kernel
theorem dX4_costOf_29 : decode cX4_costOf 29 = .ok (.istore_n 2, 1) := by decide +kernel
theorem dX4_costOf_30 : decode cX4_costOf 30 = .ok (.iinc 3 1, 3) := by decide +kernel
theorem dX4_costOf_33 : decode cX4_costOf 33 = .ok (.goto (-29), 3) := by decide +kernel
theorem dX4_costOf_36 : decode cX4_costOf 36 = .ok (.iload_n 2, 1) := by decide +kernel
theorem dX4_costOf_37 : decode cX4_costOf 37 = .ok (.ireturn, 1) := by decide +kernel
theorem dX4_isChoice_0 : decode cX4_isChoice 0 = .ok (.lconst 0, 1) := by decide +kernel
theorem dX4_isChoice_1 : decode cX4_isChoice 1 = .ok (.lstore_n 3, 1) := by decide +kernel
theorem dX4_isChoice_2 : decode cX4_isChoice 2 = .ok (.iconst 0, 1) := by decide +kernel
theorem dX4_isChoice_3 : decode cX4_isChoice 3 = .ok (.istore 5, 2) := by decide +kernel
theorem dX4_isChoice_5 : decode cX4_isChoice 5 = .ok (.iload 5, 2) := by decide +kernel
theorem dX4_isChoice_7 : decode cX4_isChoice 7 = .ok (.aload_n 0, 1) := by decide +kernel
theorem dX4_isChoice_8 : decode cX4_isChoice 8 = .ok (.getfield 21, 3) := by decide +kernel
theorem dX4_isChoice_11 : decode cX4_isChoice 11 = .ok (.if_icmp .ge 63, 3) := by decide +kernel
theorem dX4_isChoice_14 : decode cX4_isChoice 14 = .ok (.iload_n 2, 1) := by decide +kernel
theorem dX4_isChoice_15 : decode cX4_isChoice 15 = .ok (.i2l, 1) := by decide +kernel
theorem dX4_isChoice_16 : decode cX4_isChoice 16 = .ok (.iload 5, 2) := by decide +kernel
theorem dX4_isChoice_18 : decode cX4_isChoice 18 = .ok (.invokestatic 25, 3) := by decide +kernel
theorem dX4_isChoice_21 : decode cX4_isChoice 21 = .ok (.ifCond .eq 47, 3) := by decide +kernel
theorem dX4_isChoice_24 : decode cX4_isChoice 24 = .ok (.aload_n 1, 1) := by decide +kernel
theorem dX4_isChoice_25 : decode cX4_isChoice 25 = .ok (.getfield 29, 3) := by decide +kernel
theorem dX4_isChoice_28 : decode cX4_isChoice 28 = .ok (.aload_n 0, 1) := by decide +kernel
theorem dX4_isChoice_29 : decode cX4_isChoice 29 = .ok (.getfield 9, 3) := by decide +kernel
theorem dX4_isChoice_32 : decode cX4_isChoice 32 = .ok (.iload 5, 2) := by decide +kernel
theorem dX4_isChoice_34 : decode cX4_isChoice 34 = .ok (.iaload, 1) := by decide +kernel
theorem dX4_isChoice_35 : decode cX4_isChoice 35 = .ok (.iaload, 1) := by decide +kernel
theorem dX4_isChoice_36 : decode cX4_isChoice 36 = .ok (.iconst 1, 1) := by decide +kernel
theorem dX4_isChoice_37 : decode cX4_isChoice 37 = .ok (.if_icmp .ne 17, 3) := by decide +kernel
theorem dX4_isChoice_40 : decode cX4_isChoice 40 = .ok (.lload_n 3, 1) := by decide +kernel
theorem dX4_isChoice_41 : decode cX4_isChoice 41 = .ok (.aload_n 0, 1) := by decide +kernel
theorem dX4_isChoice_42 : decode cX4_isChoice 42 = .ok (.getfield 9, 3) := by decide +kernel
theorem dX4_isChoice_45 : decode cX4_isChoice 45 = .ok (.iload 5, 2) := by decide +kernel
theorem dX4_isChoice_47 : decode cX4_isChoice 47 = .ok (.iaload, 1) := by decide +kernel
theorem dX4_isChoice_48 : decode cX4_isChoice 48 = .ok (.invokestatic 25, 3) := by decide +kernel
theorem dX4_isChoice_51 : decode cX4_isChoice 51 = .ok (.ifCond .eq 5, 3) := by decide +kernel
theorem dX4_isChoice_54 : decode cX4_isChoice 54 = .ok (.iconst 0, 1) := by decide +kernel
theorem dX4_isChoice_55 : decode cX4_isChoice 55 = .ok (.ireturn, 1) := by decide +kernel
theorem dX4_isChoice_56 : decode cX4_isChoice 56 = .ok (.lload_n 3, 1) := by decide +kernel
theorem dX4_isChoice_57 : decode cX4_isChoice 57 = .ok (.lconst 1, 1) := by decide +kernel
theorem dX4_isChoice_58 : decode cX4_isChoice 58 = .ok (.aload_n 0, 1) := by decide +kernel
theorem dX4_isChoice_59 : decode cX4_isChoice 59 = .ok (.getfield 9, 3) := by decide +kernel
theorem dX4_isChoice_62 : decode cX4_isChoice 62 = .ok (.iload 5, 2) := by decide +kernel
theorem dX4_isChoice_64 : decode cX4_isChoice 64 = .ok (.iaload, 1) := by decide +kernel
theorem dX4_isChoice_65 : decode cX4_isChoice 65 = .ok (.lshl, 1) := by decide +kernel
theorem dX4_isChoice_66 : decode cX4_isChoice 66 = .ok (.lor, 1) := by decide +kernel
theorem dX4_isChoice_67 : decode cX4_isChoice 67 = .ok (.lstore_n 3, 1) := by decide +kernel
theorem dX4_isChoice_68 : decode cX4_isChoice 68 = .ok (.iinc 5 1, 3) := by decide +kernel
theorem dX4_isChoice_71 : decode cX4_isChoice 71 = .ok (.goto (-66), 3) := by decide +kernel
theorem dX4_isChoice_74 : decode cX4_isChoice 74 = .ok (.iconst 1, 1) := by decide +kernel
theorem dX4_isChoice_75 : decode cX4_isChoice 75 = .ok (.ireturn, 1) := by decide +kernel
theorem dX4_openIn_0 : decode cX4_openIn 0 = .ok (.iconst 0, 1) := by decide +kernel
theorem dX4_openIn_1 : decode cX4_openIn 1 = .ok (.istore_n 3, 1) := by decide +kernel
theorem dX4_openIn_2 : decode cX4_openIn 2 = .ok (.iload_n 3, 1) := by decide +kernel
theorem dX4_openIn_3 : decode cX4_openIn 3 = .ok (.aload_n 0, 1) := by decide +kernel
theorem dX4_openIn_4 : decode cX4_openIn 4 = .ok (.getfield 21, 3) := by decide +kernel
theorem dX4_openIn_7 : decode cX4_openIn 7 = .ok (.if_icmp .ge 37, 3) := by decide +kernel
theorem dX4_openIn_10 : decode cX4_openIn 10 = .ok (.iload_n 2, 1) := by decide +kernel
theorem dX4_openIn_11 : decode cX4_openIn 11 = .ok (.i2l, 1) := by decide +kernel
theorem dX4_openIn_12 : decode cX4_openIn 12 = .ok (.iload_n 3, 1) := by decide +kernel
theorem dX4_openIn_13 : decode cX4_openIn 13 = .ok (.invokestatic 25, 3) := by decide +kernel
theorem dX4_openIn_16 : decode cX4_openIn 16 = .ok (.ifCond .eq 22, 3) := by decide +kernel
theorem dX4_openIn_19 : decode cX4_openIn 19 = .ok (.aload_n 1, 1) := by decide +kernel
theorem dX4_openIn_20 : decode cX4_openIn 20 = .ok (.aload_n 0, 1) := by decide +kernel
theorem dX4_openIn_21 : decode cX4_openIn 21 = .ok (.getfield 9, 3) := by decide +kernel
theorem dX4_openIn_24 : decode cX4_openIn 24 = .ok (.iload_n 3, 1) := by decide +kernel
theorem dX4_openIn_25 : decode cX4_openIn 25 = .ok (.iaload, 1) := by decide +kernel
theorem dX4_openIn_26 : decode cX4_openIn 26 = .ok (.iconst 2, 1) := by decide +kernel
theorem dX4_openIn_27 : decode cX4_openIn 27 = .ok (.aload_n 0, 1) := by decide +kernel
theorem dX4_openIn_28 : decode cX4_openIn 28 = .ok (.getfield 15, 3) := by decide +kernel
theorem dX4_openIn_31 : decode cX4_openIn 31 = .ok (.iload_n 3, 1) := by decide +kernel
theorem dX4_openIn_32 : decode cX4_openIn 32 = .ok (.iaload, 1) := by decide +kernel
theorem dX4_openIn_33 : decode cX4_openIn 33 = .ok (.iconst 0, 1) := by decide +kernel
theorem dX4_openIn_34 : decode cX4_openIn 34 = .ok (.invokevirtual 34, 3) := by decide +kernel
theorem dX4_openIn_37 : decode cX4_openIn 37 = .ok (.pop, 1) := by decide +kernel
theorem dX4_openIn_38 : decode cX4_openIn 38 = .ok (.iinc 3 1, 3) := by decide +kernel
theorem dX4_openIn_41 : decode cX4_openIn 41 = .ok (.goto (-39), 3) := by decide +kernel
theorem dX4_openIn_44 : decode cX4_openIn 44 = .ok (.return_, 1) := by decide +kernel
theorem dX4_closeIn_0 : decode cX4_closeIn 0 = .ok (.iconst 0, 1) := by decide +kernel
theorem dX4_closeIn_1 : decode cX4_closeIn 1 = .ok (.istore_n 3, 1) := by decide +kernel
theorem dX4_closeIn_2 : decode cX4_closeIn 2 = .ok (.iload_n 3, 1) := by decide +kernel
theorem dX4_closeIn_3 : decode cX4_closeIn 3 = .ok (.aload_n 0, 1) := by decide +kernel
theorem dX4_closeIn_4 : decode cX4_closeIn 4 = .ok (.getfield 21, 3) := by decide +kernel
theorem dX4_closeIn_7 : decode cX4_closeIn 7 = .ok (.if_icmp .ge 32, 3) := by decide +kernel
theorem dX4_closeIn_10 : decode cX4_closeIn 10 = .ok (.iload_n 2, 1) := by decide +kernel
theorem dX4_closeIn_11 : decode cX4_closeIn 11 = .ok (.i2l, 1) := by decide +kernel
theorem dX4_closeIn_12 : decode cX4_closeIn 12 = .ok (.iload_n 3, 1) := by decide +kernel
theorem dX4_closeIn_13 : decode cX4_closeIn 13 = .ok (.invokestatic 25, 3) := by decide +kernel
theorem dX4_closeIn_16 : decode cX4_closeIn 16 = .ok (.ifCond .eq 17, 3) := by decide +kernel
theorem dX4_closeIn_19 : decode cX4_closeIn 19 = .ok (.aload_n 1, 1) := by decide +kernel
theorem dX4_closeIn_20 : decode cX4_closeIn 20 = .ok (.aload_n 0, 1) := by decide +kernel
theorem dX4_closeIn_21 : decode cX4_closeIn 21 = .ok (.getfield 9, 3) := by decide +kernel
theorem dX4_closeIn_24 : decode cX4_closeIn 24 = .ok (.iload_n 3, 1) := by decide +kernel
theorem dX4_closeIn_25 : decode cX4_closeIn 25 = .ok (.iaload, 1) := by decide +kernel
theorem dX4_closeIn_26 : decode cX4_closeIn 26 = .ok (.iconst 1, 1) := by decide +kernel
theorem dX4_closeIn_27 : decode cX4_closeIn 27 = .ok (.iconst 0, 1) := by decide +kernel
theorem dX4_closeIn_28 : decode cX4_closeIn 28 = .ok (.iconst 0, 1) := by decide +kernel
theorem dX4_closeIn_29 : decode cX4_closeIn 29 = .ok (.invokevirtual 34, 3) := by decide +kernel
theorem dX4_closeIn_32 : decode cX4_closeIn 32 = .ok (.pop, 1) := by decide +kernel
theorem dX4_closeIn_33 : decode cX4_closeIn 33 = .ok (.iinc 3 1, 3) := by decide +kernel
theorem dX4_closeIn_36 : decode cX4_closeIn 36 = .ok (.goto (-34), 3) := by decide +kernel
theorem dX4_closeIn_39 : decode cX4_closeIn 39 = .ok (.return_, 1) := by decide +kernel
theorem dX5_init_0 : decode cX5_init 0 = .ok (.aload_n 0, 1) := by decide +kernel
theorem dX5_init_1 : decode cX5_init 1 = .ok (.invokespecial 3, 3) := by decide +kernel
theorem dX5_init_4 : decode cX5_init 4 = .ok (.aload_n 0, 1) := by decide +kernel
theorem dX5_init_5 : decode cX5_init 5 = .ok (.bipush 64, 2) := by decide +kernel
theorem dX5_init_7 : decode cX5_init 7 = .ok (.newarray .int, 2) := by decide +kernel
theorem dX5_init_9 : decode cX5_init 9 = .ok (.putfield 9, 3) := by decide +kernel
theorem dX5_init_12 : decode cX5_init 12 = .ok (.aload_n 0, 1) := by decide +kernel
theorem dX5_init_13 : decode cX5_init 13 = .ok (.bipush 64, 2) := by decide +kernel
theorem dX5_init_15 : decode cX5_init 15 = .ok (.newarray .int, 2) := by decide +kernel
theorem dX5_init_17 : decode cX5_init 17 = .ok (.putfield 15, 3) := by decide +kernel
theorem dX5_init_20 : decode cX5_init 20 = .ok (.aload_n 0, 1) := by decide +kernel
theorem dX5_init_21 : decode cX5_init 21 = .ok (.lconst 0, 1) := by decide +kernel
theorem dX5_init_22 : decode cX5_init 22 = .ok (.putfield 18, 3) := by decide +kernel
theorem dX5_init_25 : decode cX5_init 25 = .ok (.return_, 1) := by decide +kernel
theorem dX5_put_0 : decode cX5_put 0 = .ok (.aload_n 0, 1) := by decide +kernel
theorem dX5_put_1 : decode cX5_put 1 = .ok (.getfield 9, 3) := by decide +kernel
theorem dX5_put_4 : decode cX5_put 4 = .ok (.iload_n 1, 1) := by decide +kernel
theorem dX5_put_5 : decode cX5_put 5 = .ok (.iaload, 1) := by decide +kernel
theorem dX5_put_6 : decode cX5_put 6 = .ok (.istore 5, 2) := by decide +kernel
theorem dX5_put_8 : decode cX5_put 8 = .ok (.aload_n 0, 1) := by decide +kernel
theorem dX5_put_9 : decode cX5_put 9 = .ok (.getfield 9, 3) := by decide +kernel
theorem dX5_put_12 : decode cX5_put 12 = .ok (.iload_n 1, 1) := by decide +kernel
theorem dX5_put_13 : decode cX5_put 13 = .ok (.iload_n 2, 1) := by decide +kernel
theorem dX5_put_14 : decode cX5_put 14 = .ok (.iastore, 1) := by decide +kernel
theorem dX5_put_15 : decode cX5_put 15 = .ok (.aload_n 0, 1) := by decide +kernel
theorem dX5_put_16 : decode cX5_put 16 = .ok (.getfield 15, 3) := by decide +kernel
theorem dX5_put_19 : decode cX5_put 19 = .ok (.iload_n 1, 1) := by decide +kernel
theorem dX5_put_20 : decode cX5_put 20 = .ok (.iload_n 3, 1) := by decide +kernel
theorem dX5_put_21 : decode cX5_put 21 = .ok (.iastore, 1) := by decide +kernel
theorem dX5_put_22 : decode cX5_put 22 = .ok (.lconst 1, 1) := by decide +kernel
theorem dX5_put_23 : decode cX5_put 23 = .ok (.iload_n 1, 1) := by decide +kernel
theorem dX5_put_24 : decode cX5_put 24 = .ok (.lshl, 1) := by decide +kernel
theorem dX5_put_25 : decode cX5_put 25 = .ok (.lstore 6, 2) := by decide +kernel
theorem dX5_put_27 : decode cX5_put 27 = .ok (.aload_n 0, 1) := by decide +kernel
theorem dX5_put_28 : decode cX5_put 28 = .ok (.iload 4, 2) := by decide +kernel
theorem dX5_put_30 : decode cX5_put 30 = .ok (.ifCond .eq 13, 3) := by decide +kernel
theorem dX5_put_33 : decode cX5_put 33 = .ok (.aload_n 0, 1) := by decide +kernel
theorem dX5_put_34 : decode cX5_put 34 = .ok (.getfield 18, 3) := by decide +kernel
theorem dX5_put_37 : decode cX5_put 37 = .ok (.lload 6, 2) := by decide +kernel
theorem dX5_put_39 : decode cX5_put 39 = .ok (.lor, 1) := by decide +kernel
theorem dX5_put_40 : decode cX5_put 40 = .ok (.goto 14, 3) := by decide +kernel
theorem dX5_put_43 : decode cX5_put 43 = .ok (.aload_n 0, 1) := by decide +kernel
theorem dX5_put_44 : decode cX5_put 44 = .ok (.getfield 18, 3) := by decide +kernel
theorem dX5_put_47 : decode cX5_put 47 = .ok (.lload 6, 2) := by decide +kernel
theorem dX5_put_49 : decode cX5_put 49 = .ok (.ldc2_w 22, 3) := by decide +kernel
theorem dX5_put_52 : decode cX5_put 52 = .ok (.lxor, 1) := by decide +kernel
theorem dX5_put_53 : decode cX5_put 53 = .ok (.land, 1) := by decide +kernel
theorem dX5_put_54 : decode cX5_put 54 = .ok (.putfield 18, 3) := by decide +kernel
theorem dX5_put_57 : decode cX5_put 57 = .ok (.iload 5, 2) := by decide +kernel
theorem dX5_put_59 : decode cX5_put 59 = .ok (.ireturn, 1) := by decide +kernel
theorem dX5_hasBlind_0 : decode cX5_hasBlind 0 = .ok (.aload_n 0, 1) := by decide +kernel
theorem dX5_hasBlind_1 : decode cX5_hasBlind 1 = .ok (.getfield 18, 3) := by decide +kernel
theorem dX5_hasBlind_4 : decode cX5_hasBlind 4 = .ok (.iload_n 1, 1) := by decide +kernel
theorem dX5_hasBlind_5 : decode cX5_hasBlind 5 = .ok (.invokestatic 24, 3) := by decide +kernel
theorem dX5_hasBlind_8 : decode cX5_hasBlind 8 = .ok (.ireturn, 1) := by decide +kernel
theorem dX5_isWall_0 : decode cX5_isWall 0 = .ok (.iload_n 1, 1) := by decide +kernel
theorem dX5_isWall_1 : decode cX5_isWall 1 = .ok (.ifCond .lt 38, 3) := by decide +kernel
theorem dX5_isWall_4 : decode cX5_isWall 4 = .ok (.iload_n 1, 1) := by decide +kernel
theorem dX5_isWall_5 : decode cX5_isWall 5 = .ok (.bipush 8, 2) := by decide +kernel
theorem dX5_isWall_7 : decode cX5_isWall 7 = .ok (.if_icmp .ge 32, 3) := by decide +kernel
theorem dX5_isWall_10 : decode cX5_isWall 10 = .ok (.iload_n 2, 1) := by decide +kernel
theorem dX5_isWall_11 : decode cX5_isWall 11 = .ok (.ifCond .lt 28, 3) := by decide +kernel
theorem dX5_isWall_14 : decode cX5_isWall 14 = .ok (.iload_n 2, 1) := by decide +kernel
theorem dX5_isWall_15 : decode cX5_isWall 15 = .ok (.bipush 8, 2) := by decide +kernel
theorem dX5_isWall_17 : decode cX5_isWall 17 = .ok (.if_icmp .ge 22, 3) := by decide +kernel
theorem dX5_isWall_20 : decode cX5_isWall 20 = .ok (.aload_n 0, 1) := by decide +kernel
theorem dX5_isWall_21 : decode cX5_isWall 21 = .ok (.getfield 9, 3) := by decide +kernel
theorem dX5_isWall_24 : decode cX5_isWall 24 = .ok (.iload_n 2, 1) := by decide +kernel
theorem dX5_isWall_25 : decode cX5_isWall 25 = .ok (.bipush 8, 2) := by decide +kernel
theorem dX5_isWall_27 : decode cX5_isWall 27 = .ok (.imul, 1) := by decide +kernel
theorem dX5_isWall_28 : decode cX5_isWall 28 = .ok (.iload_n 1, 1) := by decide +kernel
theorem dX5_isWall_29 : decode cX5_isWall 29 = .ok (.iadd, 1) := by decide +kernel
theorem dX5_isWall_30 : decode cX5_isWall 30 = .ok (.iaload, 1) := by decide +kernel
theorem dX5_isWall_31 : decode cX5_isWall 31 = .ok (.iconst 1, 1) := by decide +kernel
theorem dX5_isWall_32 : decode cX5_isWall 32 = .ok (.if_icmp .ne 7, 3) := by decide +kernel
theorem dX5_isWall_35 : decode cX5_isWall 35 = .ok (.iconst 1, 1) := by decide +kernel
theorem dX5_isWall_36 : decode cX5_isWall 36 = .ok (.goto 4, 3) := by decide +kernel
theorem dX5_isWall_39 : decode cX5_isWall 39 = .ok (.iconst 0, 1) := by decide +kernel
theorem dX5_isWall_40 : decode cX5_isWall 40 = .ok (.ireturn, 1) := by decide +kernel
theorem dX5_isShut_0 : decode cX5_isShut 0 = .ok (.aload_n 0, 1) := by decide +kernel
theorem dX5_isShut_1 : decode cX5_isShut 1 = .ok (.iload_n 1, 1) := by decide +kernel
theorem dX5_isShut_2 : decode cX5_isShut 2 = .ok (.iload_n 3, 1) := by decide +kernel
theorem dX5_isShut_3 : decode cX5_isShut 3 = .ok (.iadd, 1) := by decide +kernel
theorem dX5_isShut_4 : decode cX5_isShut 4 = .ok (.iload_n 2, 1) := by decide +kernel
theorem dX5_isShut_5 : decode cX5_isShut 5 = .ok (.iload 4, 2) := by decide +kernel
theorem dX5_isShut_7 : decode cX5_isShut 7 = .ok (.iadd, 1) := by decide +kernel
theorem dX5_isShut_8 : decode cX5_isShut 8 = .ok (.invokevirtual 28, 3) := by decide +kernel
theorem dX5_isShut_11 : decode cX5_isShut 11 = .ok (.ifCond .eq 5, 3) := by decide +kernel
theorem dX5_isShut_14 : decode cX5_isShut 14 = .ok (.iconst 1, 1) := by decide +kernel
theorem dX5_isShut_15 : decode cX5_isShut 15 = .ok (.ireturn, 1) := by decide +kernel
theorem dX5_isShut_16 : decode cX5_isShut 16 = .ok (.iload_n 3, 1) := by decide +kernel
theorem dX5_isShut_17 : decode cX5_isShut 17 = .ok (.ifCond .eq 8, 3) := by decide +kernel
theorem dX5_isShut_20 : decode cX5_isShut 20 = .ok (.iload 4, 2) := by decide +kernel
theorem dX5_isShut_22 : decode cX5_isShut 22 = .ok (.ifCond .ne 5, 3) := by decide +kernel
theorem dX5_isShut_25 : decode cX5_isShut 25 = .ok (.iconst 0, 1) := by decide +kernel
theorem dX5_isShut_26 : decode cX5_isShut 26 = .ok (.ireturn, 1) := by decide +kernel
theorem dX5_isShut_27 : decode cX5_isShut 27 = .ok (.iload_n 3, 1) := by decide +kernel
theorem dX5_isShut_28 : decode cX5_isShut 28 = .ok (.iconst 2, 1) := by decide +kernel
theorem dX5_isShut_29 : decode cX5_isShut 29 = .ok (.if_icmp .eq 9, 3) := by decide +kernel
theorem dX5_isShut_32 : decode cX5_isShut 32 = .ok (.iload_n 3, 1) := by decide +kernel
theorem dX5_isShut_33 : decode cX5_isShut 33 = .ok (.bipush (-2), 2) := by decide +kernel
theorem dX5_isShut_35 : decode cX5_isShut 35 = .ok (.if_icmp .ne 38, 3) := by decide +kernel
theorem dX5_isShut_38 : decode cX5_isShut 38 = .ok (.aload_n 0, 1) := by decide +kernel
theorem dX5_isShut_39 : decode cX5_isShut 39 = .ok (.iload_n 1, 1) := by decide +kernel
theorem dX5_isShut_40 : decode cX5_isShut 40 = .ok (.iload_n 3, 1) := by decide +kernel
theorem dX5_isShut_41 : decode cX5_isShut 41 = .ok (.iconst 2, 1) := by decide +kernel
theorem dX5_isShut_42 : decode cX5_isShut 42 = .ok (.idiv, 1) := by decide +kernel
theorem dX5_isShut_43 : decode cX5_isShut 43 = .ok (.iadd, 1) := by decide +kernel
theorem dX5_isShut_44 : decode cX5_isShut 44 = .ok (.iload_n 2, 1) := by decide +kernel
theorem dX5_isShut_45 : decode cX5_isShut 45 = .ok (.invokevirtual 28, 3) := by decide +kernel
theorem dX5_isShut_48 : decode cX5_isShut 48 = .ok (.ifCond .eq 23, 3) := by decide +kernel
theorem dX5_isShut_51 : decode cX5_isShut 51 = .ok (.aload_n 0, 1) := by decide +kernel
theorem dX5_isShut_52 : decode cX5_isShut 52 = .ok (.iload_n 1, 1) := by decide +kernel
theorem dX5_isShut_53 : decode cX5_isShut 53 = .ok (.iload_n 3, 1) := by decide +kernel
theorem dX5_isShut_54 : decode cX5_isShut 54 = .ok (.iconst 2, 1) := by decide +kernel
theorem dX5_isShut_55 : decode cX5_isShut 55 = .ok (.idiv, 1) := by decide +kernel
theorem dX5_isShut_56 : decode cX5_isShut 56 = .ok (.iadd, 1) := by decide +kernel
theorem dX5_isShut_57 : decode cX5_isShut 57 = .ok (.iload_n 2, 1) := by decide +kernel
theorem dX5_isShut_58 : decode cX5_isShut 58 = .ok (.iload 4, 2) := by decide +kernel
theorem dX5_isShut_60 : decode cX5_isShut 60 = .ok (.iadd, 1) := by decide +kernel
theorem dX5_isShut_61 : decode cX5_isShut 61 = .ok (.invokevirtual 28, 3) := by decide +kernel
theorem dX5_isShut_64 : decode cX5_isShut 64 = .ok (.ifCond .eq 7, 3) := by decide +kernel
theorem dX5_isShut_67 : decode cX5_isShut 67 = .ok (.iconst 1, 1) := by decide +kernel
theorem dX5_isShut_68 : decode cX5_isShut 68 = .ok (.goto 4, 3) := by decide +kernel
theorem dX5_isShut_71 : decode cX5_isShut 71 = .ok (.iconst 0, 1) := by decide +kernel
theorem dX5_isShut_72 : decode cX5_isShut 72 = .ok (.ireturn, 1) := by decide +kernel
theorem dX5_isShut_73 : decode cX5_isShut 73 = .ok (.iload 4, 2) := by decide +kernel
theorem dX5_isShut_75 : decode cX5_isShut 75 = .ok (.iconst 2, 1) := by decide +kernel
theorem dX5_isShut_76 : decode cX5_isShut 76 = .ok (.if_icmp .eq 10, 3) := by decide +kernel
theorem dX5_isShut_79 : decode cX5_isShut 79 = .ok (.iload 4, 2) := by decide +kernel
theorem dX5_isShut_81 : decode cX5_isShut 81 = .ok (.bipush (-2), 2) := by decide +kernel
theorem dX5_isShut_83 : decode cX5_isShut 83 = .ok (.if_icmp .ne 39, 3) := by decide +kernel
theorem dX5_isShut_86 : decode cX5_isShut 86 = .ok (.aload_n 0, 1) := by decide +kernel
theorem dX5_isShut_87 : decode cX5_isShut 87 = .ok (.iload_n 1, 1) := by decide +kernel
theorem dX5_isShut_88 : decode cX5_isShut 88 = .ok (.iload_n 2, 1) := by decide +kernel
theorem dX5_isShut_89 : decode cX5_isShut 89 = .ok (.iload 4, 2) := by decide +kernel
theorem dX5_isShut_91 : decode cX5_isShut 91 = .ok (.iconst 2, 1) := by decide +kernel
theorem dX5_isShut_92 : decode cX5_isShut 92 = .ok (.idiv, 1) := by decide +kernel
theorem dX5_isShut_93 : decode cX5_isShut 93 = .ok (.iadd, 1) := by decide +kernel
theorem dX5_isShut_94 : decode cX5_isShut 94 = .ok (.invokevirtual 28, 3) := by decide +kernel
theorem dX5_isShut_97 : decode cX5_isShut 97 = .ok (.ifCond .eq 23, 3) := by decide +kernel
theorem dX5_isShut_100 : decode cX5_isShut 100 = .ok (.aload_n 0, 1) := by decide +kernel
theorem dX5_isShut_101 : decode cX5_isShut 101 = .ok (.iload_n 1, 1) := by decide +kernel
theorem dX5_isShut_102 : decode cX5_isShut 102 = .ok (.iload_n 3, 1) := by decide +kernel
theorem dX5_isShut_103 : decode cX5_isShut 103 = .ok (.iadd, 1) := by decide +kernel
theorem dX5_isShut_104 : decode cX5_isShut 104 = .ok (.iload_n 2, 1) := by decide +kernel
theorem dX5_isShut_105 : decode cX5_isShut 105 = .ok (.iload 4, 2) := by decide +kernel
theorem dX5_isShut_107 : decode cX5_isShut 107 = .ok (.iconst 2, 1) := by decide +kernel
theorem dX5_isShut_108 : decode cX5_isShut 108 = .ok (.idiv, 1) := by decide +kernel
theorem dX5_isShut_109 : decode cX5_isShut 109 = .ok (.iadd, 1) := by decide +kernel
theorem dX5_isShut_110 : decode cX5_isShut 110 = .ok (.invokevirtual 28, 3) := by decide +kernel
theorem dX5_isShut_113 : decode cX5_isShut 113 = .ok (.ifCond .eq 7, 3) := by decide +kernel
theorem dX5_isShut_116 : decode cX5_isShut 116 = .ok (.iconst 1, 1) := by decide +kernel
theorem dX5_isShut_117 : decode cX5_isShut 117 = .ok (.goto 4, 3) := by decide +kernel
theorem dX5_isShut_120 : decode cX5_isShut 120 = .ok (.iconst 0, 1) := by decide +kernel
theorem dX5_isShut_121 : decode cX5_isShut 121 = .ok (.ireturn, 1) := by decide +kernel
theorem dX5_isShut_122 : decode cX5_isShut 122 = .ok (.aload_n 0, 1) := by decide +kernel
theorem dX5_isShut_123 : decode cX5_isShut 123 = .ok (.iload_n 1, 1) := by decide +kernel
theorem dX5_isShut_124 : decode cX5_isShut 124 = .ok (.iload_n 3, 1) := by decide +kernel
theorem dX5_isShut_125 : decode cX5_isShut 125 = .ok (.iadd, 1) := by decide +kernel
theorem dX5_isShut_126 : decode cX5_isShut 126 = .ok (.iload_n 2, 1) := by decide +kernel
theorem dX5_isShut_127 : decode cX5_isShut 127 = .ok (.invokevirtual 28, 3) := by decide +kernel
theorem dX5_isShut_130 : decode cX5_isShut 130 = .ok (.ifCond .eq 19, 3) := by decide +kernel
theorem dX5_isShut_133 : decode cX5_isShut 133 = .ok (.aload_n 0, 1) := by decide +kernel
theorem dX5_isShut_134 : decode cX5_isShut 134 = .ok (.iload_n 1, 1) := by decide +kernel
theorem dX5_isShut_135 : decode cX5_isShut 135 = .ok (.iload_n 2, 1) := by decide +kernel
theorem dX5_isShut_136 : decode cX5_isShut 136 = .ok (.iload 4, 2) := by decide +kernel
theorem dX5_isShut_138 : decode cX5_isShut 138 = .ok (.iadd, 1) := by decide +kernel
theorem dX5_isShut_139 : decode cX5_isShut 139 = .ok (.invokevirtual 28, 3) := by decide +kernel
theorem dX5_isShut_142 : decode cX5_isShut 142 = .ok (.ifCond .eq 7, 3) := by decide +kernel
theorem dX5_isShut_145 : decode cX5_isShut 145 = .ok (.iconst 1, 1) := by decide +kernel
theorem dX5_isShut_146 : decode cX5_isShut 146 = .ok (.goto 4, 3) := by decide +kernel
theorem dX5_isShut_149 : decode cX5_isShut 149 = .ok (.iconst 0, 1) := by decide +kernel
theorem dX5_isShut_150 : decode cX5_isShut 150 = .ok (.ireturn, 1) := by decide +kernel
theorem dX5_howMany_0 : decode cX5_howMany 0 = .ok (.iconst 0, 1) := by decide +kernel
theorem dX5_howMany_1 : decode cX5_howMany 1 = .ok (.istore_n 2, 1) := by decide +kernel
theorem dX5_howMany_2 : decode cX5_howMany 2 = .ok (.iconst 0, 1) := by decide +kernel
theorem dX5_howMany_3 : decode cX5_howMany 3 = .ok (.istore_n 3, 1) := by decide +kernel
theorem dX5_howMany_4 : decode cX5_howMany 4 = .ok (.iload_n 3, 1) := by decide +kernel
theorem dX5_howMany_5 : decode cX5_howMany 5 = .ok (.bipush 64, 2) := by decide +kernel
theorem dX5_howMany_7 : decode cX5_howMany 7 = .ok (.if_icmp .ge 22, 3) := by decide +kernel
theorem dX5_howMany_10 : decode cX5_howMany 10 = .ok (.aload_n 0, 1) := by decide +kernel
theorem dX5_howMany_11 : decode cX5_howMany 11 = .ok (.getfield 9, 3) := by decide +kernel
theorem dX5_howMany_14 : decode cX5_howMany 14 = .ok (.iload_n 3, 1) := by decide +kernel
theorem dX5_howMany_15 : decode cX5_howMany 15 = .ok (.iaload, 1) := by decide +kernel
theorem dX5_howMany_16 : decode cX5_howMany 16 = .ok (.iload_n 1, 1) := by decide +kernel
theorem dX5_howMany_17 : decode cX5_howMany 17 = .ok (.if_icmp .ne 6, 3) := by decide +kernel
theorem dX5_howMany_20 : decode cX5_howMany 20 = .ok (.iinc 2 1, 3) := by decide +kernel
theorem dX5_howMany_23 : decode cX5_howMany 23 = .ok (.iinc 3 1, 3) := by decide +kernel
theorem dX5_howMany_26 : decode cX5_howMany 26 = .ok (.goto (-22), 3) := by decide +kernel
theorem dX5_howMany_29 : decode cX5_howMany 29 = .ok (.iload_n 2, 1) := by decide +kernel
theorem dX5_howMany_30 : decode cX5_howMany 30 = .ok (.ireturn, 1) := by decide +kernel
theorem dX6_init_0 : decode cX6_init 0 = .ok (.aload_n 0, 1) := by decide +kernel
theorem dX6_init_1 : decode cX6_init 1 = .ok (.invokespecial 3, 3) := by decide +kernel
theorem dX6_init_4 : decode cX6_init 4 = .ok (.aload_n 0, 1) := by decide +kernel
theorem dX6_init_5 : decode cX6_init 5 = .ok (.bipush 64, 2) := by decide +kernel
theorem dX6_init_7 : decode cX6_init 7 = .ok (.newarray .int, 2) := by decide +kernel
theorem dX6_init_9 : decode cX6_init 9 = .ok (.putfield 9, 3) := by decide +kernel
theorem dX6_init_12 : decode cX6_init 12 = .ok (.aload_n 0, 1) := by decide +kernel
theorem dX6_init_13 : decode cX6_init 13 = .ok (.bipush 64, 2) := by decide +kernel
theorem dX6_init_15 : decode cX6_init 15 = .ok (.newarray .long, 2) := by decide +kernel
theorem dX6_init_17 : decode cX6_init 17 = .ok (.putfield 15, 3) := by decide +kernel
theorem dX6_init_20 : decode cX6_init 20 = .ok (.aload_n 0, 1) := by decide +kernel
theorem dX6_init_21 : decode cX6_init 21 = .ok (.bipush 64, 2) := by decide +kernel
theorem dX6_init_23 : decode cX6_init 23 = .ok (.newarray .long, 2) := by decide +kernel
theorem dX6_init_25 : decode cX6_init 25 = .ok (.putfield 19, 3) := by decide +kernel
theorem dX6_init_28 : decode cX6_init 28 = .ok (.aload_n 0, 1) := by decide +kernel
theorem dX6_init_29 : decode cX6_init 29 = .ok (.iconst 4, 1) := by decide +kernel
theorem dX6_init_30 : decode cX6_init 30 = .ok (.newarray .long, 2) := by decide +kernel
theorem dX6_init_32 : decode cX6_init 32 = .ok (.putfield 22, 3) := by decide +kernel
theorem dX6_init_35 : decode cX6_init 35 = .ok (.return_, 1) := by decide +kernel
theorem dX6_trace_0 : decode cX6_trace 0 = .ok (.iconst 0, 1) := by decide +kernel
theorem dX6_trace_1 : decode cX6_trace 1 = .ok (.istore_n 3, 1) := by decide +kernel
theorem dX6_trace_2 : decode cX6_trace 2 = .ok (.iload_n 3, 1) := by decide +kernel
theorem dX6_trace_3 : decode cX6_trace 3 = .ok (.aload_n 2, 1) := by decide +kernel
theorem dX6_trace_4 : decode cX6_trace 4 = .ok (.getfield 25, 3) := by decide +kernel
theorem dX6_trace_7 : decode cX6_trace 7 = .ok (.if_icmp .ge 77, 3) := by decide +kernel
theorem dX6_trace_10 : decode cX6_trace 10 = .ok (.lconst 0, 1) := by decide +kernel
theorem dX6_trace_11 : decode cX6_trace 11 = .ok (.lstore 4, 2) := by decide +kernel
theorem dX6_trace_13 : decode cX6_trace 13 = .ok (.iconst 0, 1) := by decide +kernel
theorem dX6_trace_14 : decode cX6_trace 14 = .ok (.istore 6, 2) := by decide +kernel
theorem dX6_trace_16 : decode cX6_trace 16 = .ok (.iload 6, 2) := by decide +kernel
theorem dX6_trace_18 : decode cX6_trace 18 = .ok (.bipush 16, 2) := by decide +kernel
theorem dX6_trace_20 : decode cX6_trace 20 = .ok (.if_icmp .ge 50, 3) := by decide +kernel
theorem dX6_trace_23 : decode cX6_trace 23 = .ok (.aload_n 0, 1) := by decide +kernel
theorem dX6_trace_24 : decode cX6_trace 24 = .ok (.aload_n 1, 1) := by decide +kernel
theorem dX6_trace_25 : decode cX6_trace 25 = .ok (.iload_n 3, 1) := by decide +kernel
theorem dX6_trace_26 : decode cX6_trace 26 = .ok (.iload 6, 2) := by decide +kernel
theorem dX6_trace_28 : decode cX6_trace 28 = .ok (.invokestatic 31, 3) := by decide +kernel
theorem dX6_trace_31 : decode cX6_trace 31 = .ok (.iload 6, 2) := by decide +kernel
theorem dX6_trace_33 : decode cX6_trace 33 = .ok (.aload_n 2, 1) := by decide +kernel
theorem dX6_trace_34 : decode cX6_trace 34 = .ok (.getfield 35, 3) := by decide +kernel
theorem dX6_trace_37 : decode cX6_trace 37 = .ok (.iload_n 3, 1) := by decide +kernel
theorem dX6_trace_38 : decode cX6_trace 38 = .ok (.iaload, 1) := by decide +kernel
theorem dX6_trace_39 : decode cX6_trace 39 = .ok (.aload_n 2, 1) := by decide +kernel
theorem dX6_trace_40 : decode cX6_trace 40 = .ok (.getfield 38, 3) := by decide +kernel
theorem dX6_trace_43 : decode cX6_trace 43 = .ok (.iload_n 3, 1) := by decide +kernel
theorem dX6_trace_44 : decode cX6_trace 44 = .ok (.iaload, 1) := by decide +kernel
theorem dX6_trace_45 : decode cX6_trace 45 = .ok (.invokevirtual 41, 3) := by decide +kernel
theorem dX6_trace_48 : decode cX6_trace 48 = .ok (.lload 4, 2) := by decide +kernel
theorem dX6_trace_50 : decode cX6_trace 50 = .ok (.aload_n 0, 1) := by decide +kernel
theorem dX6_trace_51 : decode cX6_trace 51 = .ok (.getfield 15, 3) := by decide +kernel
theorem dX6_trace_54 : decode cX6_trace 54 = .ok (.iload_n 3, 1) := by decide +kernel
theorem dX6_trace_55 : decode cX6_trace 55 = .ok (.iload 6, 2) := by decide +kernel
theorem dX6_trace_57 : decode cX6_trace 57 = .ok (.invokestatic 31, 3) := by decide +kernel
theorem dX6_trace_60 : decode cX6_trace 60 = .ok (.laload, 1) := by decide +kernel
theorem dX6_trace_61 : decode cX6_trace 61 = .ok (.ladd, 1) := by decide +kernel
theorem dX6_trace_62 : decode cX6_trace 62 = .ok (.lstore 4, 2) := by decide +kernel
theorem dX6_trace_64 : decode cX6_trace 64 = .ok (.iinc 6 1, 3) := by decide +kernel
theorem dX6_trace_67 : decode cX6_trace 67 = .ok (.goto (-51), 3) := by decide +kernel
theorem dX6_trace_70 : decode cX6_trace 70 = .ok (.aload_n 0, 1) := by decide +kernel
theorem dX6_trace_71 : decode cX6_trace 71 = .ok (.getfield 22, 3) := by decide +kernel
theorem dX6_trace_74 : decode cX6_trace 74 = .ok (.iload_n 3, 1) := by decide +kernel
theorem dX6_trace_75 : decode cX6_trace 75 = .ok (.lload 4, 2) := by decide +kernel
theorem dX6_trace_77 : decode cX6_trace 77 = .ok (.lastore, 1) := by decide +kernel
theorem dX6_trace_78 : decode cX6_trace 78 = .ok (.iinc 3 1, 3) := by decide +kernel
theorem dX6_trace_81 : decode cX6_trace 81 = .ok (.goto (-79), 3) := by decide +kernel
theorem dX6_trace_84 : decode cX6_trace 84 = .ok (.return_, 1) := by decide +kernel
theorem dX6_traceRay_0 : decode cX6_traceRay 0 = .ok (.getstatic 45, 3) := by decide +kernel
theorem dX6_traceRay_3 : decode cX6_traceRay 3 = .ok (.iload_n 3, 1) := by decide +kernel
theorem dX6_traceRay_4 : decode cX6_traceRay 4 = .ok (.iaload, 1) := by decide +kernel
theorem dX6_traceRay_5 : decode cX6_traceRay 5 = .ok (.istore 6, 2) := by decide +kernel
theorem dX6_traceRay_7 : decode cX6_traceRay 7 = .ok (.getstatic 48, 3) := by decide +kernel
theorem dX6_traceRay_10 : decode cX6_traceRay 10 = .ok (.iload_n 3, 1) := by decide +kernel
theorem dX6_traceRay_11 : decode cX6_traceRay 11 = .ok (.iaload, 1) := by decide +kernel
theorem dX6_traceRay_12 : decode cX6_traceRay 12 = .ok (.istore 7, 2) := by decide +kernel
theorem dX6_traceRay_14 : decode cX6_traceRay 14 = .ok (.iload 4, 2) := by decide +kernel
theorem dX6_traceRay_16 : decode cX6_traceRay 16 = .ok (.istore 8, 2) := by decide +kernel
theorem dX6_traceRay_18 : decode cX6_traceRay 18 = .ok (.iload 5, 2) := by decide +kernel
theorem dX6_traceRay_20 : decode cX6_traceRay 20 = .ok (.istore 9, 2) := by decide +kernel
theorem dX6_traceRay_22 : decode cX6_traceRay 22 = .ok (.iconst 0, 1) := by decide +kernel
theorem dX6_traceRay_23 : decode cX6_traceRay 23 = .ok (.istore 10, 2) := by decide +kernel
theorem dX6_traceRay_25 : decode cX6_traceRay 25 = .ok (.ldc2_w 51, 3) := by decide +kernel
theorem dX6_traceRay_28 : decode cX6_traceRay 28 = .ok (.lstore 11, 2) := by decide +kernel
theorem dX6_traceRay_30 : decode cX6_traceRay 30 = .ok (.lconst 0, 1) := by decide +kernel
theorem dX6_traceRay_31 : decode cX6_traceRay 31 = .ok (.lstore 13, 2) := by decide +kernel
theorem dX6_traceRay_33 : decode cX6_traceRay 33 = .ok (.iload 10, 2) := by decide +kernel
theorem dX6_traceRay_35 : decode cX6_traceRay 35 = .ok (.bipush 8, 2) := by decide +kernel
theorem dX6_traceRay_37 : decode cX6_traceRay 37 = .ok (.if_icmp .ge 109, 3) := by decide +kernel
theorem dX6_traceRay_40 : decode cX6_traceRay 40 = .ok (.iload 8, 2) := by decide +kernel
theorem dX6_traceRay_42 : decode cX6_traceRay 42 = .ok (.iload 9, 2) := by decide +kernel
theorem dX6_traceRay_44 : decode cX6_traceRay 44 = .ok (.invokestatic 53, 3) := by decide +kernel
theorem dX6_traceRay_47 : decode cX6_traceRay 47 = .ok (.ifCond .eq 99, 3) := by decide +kernel
theorem dX6_traceRay_50 : decode cX6_traceRay 50 = .ok (.aload_n 1, 1) := by decide +kernel
theorem dX6_traceRay_51 : decode cX6_traceRay 51 = .ok (.iload 8, 2) := by decide +kernel
theorem dX6_traceRay_53 : decode cX6_traceRay 53 = .ok (.iload 9, 2) := by decide +kernel
theorem dX6_traceRay_55 : decode cX6_traceRay 55 = .ok (.iload 6, 2) := by decide +kernel
theorem dX6_traceRay_57 : decode cX6_traceRay 57 = .ok (.iload 7, 2) := by decide +kernel
theorem dX6_traceRay_59 : decode cX6_traceRay 59 = .ok (.invokevirtual 57, 3) := by decide +kernel
theorem dX6_traceRay_62 : decode cX6_traceRay 62 = .ok (.ifCond .ne 84, 3) := by decide +kernel
theorem dX6_traceRay_65 : decode cX6_traceRay 65 = .ok (.iload 8, 2) := by decide +kernel
theorem dX6_traceRay_67 : decode cX6_traceRay 67 = .ok (.iload 6, 2) := by decide +kernel
theorem dX6_traceRay_69 : decode cX6_traceRay 69 = .ok (.iadd, 1) := by decide +kernel
theorem dX6_traceRay_70 : decode cX6_traceRay 70 = .ok (.istore 8, 2) := by decide +kernel
theorem dX6_traceRay_72 : decode cX6_traceRay 72 = .ok (.iload 9, 2) := by decide +kernel
theorem dX6_traceRay_74 : decode cX6_traceRay 74 = .ok (.iload 7, 2) := by decide +kernel
theorem dX6_traceRay_76 : decode cX6_traceRay 76 = .ok (.iadd, 1) := by decide +kernel
theorem dX6_traceRay_77 : decode cX6_traceRay 77 = .ok (.istore 9, 2) := by decide +kernel
theorem dX6_traceRay_79 : decode cX6_traceRay 79 = .ok (.iinc 10 1, 3) := by decide +kernel
theorem dX6_traceRay_82 : decode cX6_traceRay 82 = .ok (.iload 8, 2) := by decide +kernel
theorem dX6_traceRay_84 : decode cX6_traceRay 84 = .ok (.iload 9, 2) := by decide +kernel
theorem dX6_traceRay_86 : decode cX6_traceRay 86 = .ok (.invokestatic 53, 3) := by decide +kernel
theorem dX6_traceRay_89 : decode cX6_traceRay 89 = .ok (.ifCond .eq (-56), 3) := by decide +kernel
theorem dX6_traceRay_92 : decode cX6_traceRay 92 = .ok (.aload_n 1, 1) := by decide +kernel
theorem dX6_traceRay_93 : decode cX6_traceRay 93 = .ok (.getfield 63, 3) := by decide +kernel
theorem dX6_traceRay_96 : decode cX6_traceRay 96 = .ok (.iload 8, 2) := by decide +kernel
theorem dX6_traceRay_98 : decode cX6_traceRay 98 = .ok (.iload 9, 2) := by decide +kernel
theorem dX6_traceRay_100 : decode cX6_traceRay 100 = .ok (.invokestatic 66, 3) := by decide +kernel
theorem dX6_traceRay_103 : decode cX6_traceRay 103 = .ok (.iaload, 1) := by decide +kernel
theorem dX6_traceRay_104 : decode cX6_traceRay 104 = .ok (.ifCond .le (-71), 3) := by decide +kernel
theorem dX6_traceRay_107 : decode cX6_traceRay 107 = .ok (.lload 11, 2) := by decide +kernel
theorem dX6_traceRay_109 : decode cX6_traceRay 109 = .ok (.ldc2_w 69, 3) := by decide +kernel
theorem dX6_traceRay_112 : decode cX6_traceRay 112 = .ok (.ldiv, 1) := by decide +kernel
theorem dX6_traceRay_113 : decode cX6_traceRay 113 = .ok (.aload_n 1, 1) := by decide +kernel
theorem dX6_traceRay_114 : decode cX6_traceRay 114 = .ok (.getfield 63, 3) := by decide +kernel
theorem dX6_traceRay_117 : decode cX6_traceRay 117 = .ok (.iload 8, 2) := by decide +kernel
theorem dX6_traceRay_119 : decode cX6_traceRay 119 = .ok (.iload 9, 2) := by decide +kernel
theorem dX6_traceRay_121 : decode cX6_traceRay 121 = .ok (.invokestatic 66, 3) := by decide +kernel
theorem dX6_traceRay_124 : decode cX6_traceRay 124 = .ok (.iaload, 1) := by decide +kernel
theorem dX6_traceRay_125 : decode cX6_traceRay 125 = .ok (.i2l, 1) := by decide +kernel
theorem dX6_traceRay_126 : decode cX6_traceRay 126 = .ok (.lmul, 1) := by decide +kernel
theorem dX6_traceRay_127 : decode cX6_traceRay 127 = .ok (.lstore 11, 2) := by decide +kernel
theorem dX6_traceRay_129 : decode cX6_traceRay 129 = .ok (.lload 13, 2) := by decide +kernel
theorem dX6_traceRay_131 : decode cX6_traceRay 131 = .ok (.lconst 1, 1) := by decide +kernel
theorem dX6_traceRay_132 : decode cX6_traceRay 132 = .ok (.iload 8, 2) := by decide +kernel
theorem dX6_traceRay_134 : decode cX6_traceRay 134 = .ok (.iload 9, 2) := by decide +kernel
theorem dX6_traceRay_136 : decode cX6_traceRay 136 = .ok (.invokestatic 66, 3) := by decide +kernel
theorem dX6_traceRay_139 : decode cX6_traceRay 139 = .ok (.lshl, 1) := by decide +kernel
theorem dX6_traceRay_140 : decode cX6_traceRay 140 = .ok (.lor, 1) := by decide +kernel
theorem dX6_traceRay_141 : decode cX6_traceRay 141 = .ok (.lstore 13, 2) := by decide +kernel
theorem dX6_traceRay_143 : decode cX6_traceRay 143 = .ok (.goto (-110), 3) := by decide +kernel
theorem dX6_traceRay_146 : decode cX6_traceRay 146 = .ok (.iload 8, 2) := by decide +kernel
theorem dX6_traceRay_148 : decode cX6_traceRay 148 = .ok (.iload 9, 2) := by decide +kernel
theorem dX6_traceRay_150 : decode cX6_traceRay 150 = .ok (.invokestatic 53, 3) := by decide +kernel
theorem dX6_traceRay_153 : decode cX6_traceRay 153 = .ok (.ifCond .ne 7, 3) := by decide +kernel
theorem dX6_traceRay_156 : decode cX6_traceRay 156 = .ok (.iconst 1, 1) := by decide +kernel
theorem dX6_traceRay_157 : decode cX6_traceRay 157 = .ok (.goto 4, 3) := by decide +kernel
theorem dX6_traceRay_160 : decode cX6_traceRay 160 = .ok (.iconst 0, 1) := by decide +kernel
theorem dX6_traceRay_161 : decode cX6_traceRay 161 = .ok (.istore 15, 2) := by decide +kernel
theorem dX6_traceRay_163 : decode cX6_traceRay 163 = .ok (.aload_n 0, 1) := by decide +kernel
theorem dX6_traceRay_164 : decode cX6_traceRay 164 = .ok (.getfield 9, 3) := by decide +kernel
theorem dX6_traceRay_167 : decode cX6_traceRay 167 = .ok (.iload_n 2, 1) := by decide +kernel
theorem dX6_traceRay_168 : decode cX6_traceRay 168 = .ok (.iload 15, 2) := by decide +kernel
theorem dX6_traceRay_170 : decode cX6_traceRay 170 = .ok (.ifCond .eq 8, 3) := by decide +kernel
theorem dX6_traceRay_173 : decode cX6_traceRay 173 = .ok (.iload 10, 2) := by decide +kernel
theorem dX6_traceRay_175 : decode cX6_traceRay 175 = .ok (.goto 4, 3) := by decide +kernel
theorem dX6_traceRay_178 : decode cX6_traceRay 178 = .ok (.iconst (-1), 1) := by decide +kernel
theorem dX6_traceRay_179 : decode cX6_traceRay 179 = .ok (.iastore, 1) := by decide +kernel
theorem dX6_traceRay_180 : decode cX6_traceRay 180 = .ok (.aload_n 0, 1) := by decide +kernel
theorem dX6_traceRay_181 : decode cX6_traceRay 181 = .ok (.getfield 15, 3) := by decide +kernel
theorem dX6_traceRay_184 : decode cX6_traceRay 184 = .ok (.iload_n 2, 1) := by decide +kernel
theorem dX6_traceRay_185 : decode cX6_traceRay 185 = .ok (.iload 15, 2) := by decide +kernel
theorem dX6_traceRay_187 : decode cX6_traceRay 187 = .ok (.ifCond .eq 8, 3) := by decide +kernel
theorem dX6_traceRay_190 : decode cX6_traceRay 190 = .ok (.lload 11, 2) := by decide +kernel
theorem dX6_traceRay_192 : decode cX6_traceRay 192 = .ok (.goto 4, 3) := by decide +kernel
theorem dX6_traceRay_195 : decode cX6_traceRay 195 = .ok (.lconst 0, 1) := by decide +kernel
theorem dX6_traceRay_196 : decode cX6_traceRay 196 = .ok (.lastore, 1) := by decide +kernel
theorem dX6_traceRay_197 : decode cX6_traceRay 197 = .ok (.aload_n 0, 1) := by decide +kernel
theorem dX6_traceRay_198 : decode cX6_traceRay 198 = .ok (.getfield 19, 3) := by decide +kernel
theorem dX6_traceRay_201 : decode cX6_traceRay 201 = .ok (.iload_n 2, 1) := by decide +kernel
theorem dX6_traceRay_202 : decode cX6_traceRay 202 = .ok (.iload 15, 2) := by decide +kernel
theorem dX6_traceRay_204 : decode cX6_traceRay 204 = .ok (.ifCond .eq 8, 3) := by decide +kernel
theorem dX6_traceRay_207 : decode cX6_traceRay 207 = .ok (.lload 13, 2) := by decide +kernel
theorem dX6_traceRay_209 : decode cX6_traceRay 209 = .ok (.goto 4, 3) := by decide +kernel
theorem dX6_traceRay_212 : decode cX6_traceRay 212 = .ok (.lconst 0, 1) := by decide +kernel
theorem dX6_traceRay_213 : decode cX6_traceRay 213 = .ok (.lastore, 1) := by decide +kernel
theorem dX6_traceRay_214 : decode cX6_traceRay 214 = .ok (.return_, 1) := by decide +kernel
theorem dX6_skyOf_0 : decode cX6_skyOf 0 = .ok (.ldc2_w 71, 3) := by decide +kernel
theorem dX6_skyOf_3 : decode cX6_skyOf 3 = .ok (.aload_n 0, 1) := by decide +kernel
theorem dX6_skyOf_4 : decode cX6_skyOf 4 = .ok (.getfield 22, 3) := by decide +kernel
theorem dX6_skyOf_7 : decode cX6_skyOf 7 = .ok (.iload_n 1, 1) := by decide +kernel
theorem dX6_skyOf_8 : decode cX6_skyOf 8 = .ok (.laload, 1) := by decide +kernel
theorem dX6_skyOf_9 : decode cX6_skyOf 9 = .ok (.lmul, 1) := by decide +kernel
theorem dX6_skyOf_10 : decode cX6_skyOf 10 = .ok (.ldc2_w 73, 3) := by decide +kernel
theorem dX6_skyOf_13 : decode cX6_skyOf 13 = .ok (.ldiv, 1) := by decide +kernel
theorem dX6_skyOf_14 : decode cX6_skyOf 14 = .ok (.l2i, 1) := by decide +kernel
theorem dX6_skyOf_15 : decode cX6_skyOf 15 = .ok (.ireturn, 1) := by decide +kernel
theorem dX6_sumUnder_0 : decode cX6_sumUnder 0 = .ok (.lload 4, 2) := by decide +kernel
theorem dX6_sumUnder_2 : decode cX6_sumUnder 2 = .ok (.lconst 0, 1) := by decide +kernel
theorem dX6_sumUnder_3 : decode cX6_sumUnder 3 = .ok (.lcmp, 1) := by decide +kernel
theorem dX6_sumUnder_4 : decode cX6_sumUnder 4 = .ok (.ifCond .ne 10, 3) := by decide +kernel
theorem dX6_sumUnder_7 : decode cX6_sumUnder 7 = .ok (.aload_n 0, 1) := by decide +kernel
theorem dX6_sumUnder_8 : decode cX6_sumUnder 8 = .ok (.getfield 22, 3) := by decide +kernel
theorem dX6_sumUnder_11 : decode cX6_sumUnder 11 = .ok (.iload_n 3, 1) := by decide +kernel
theorem dX6_sumUnder_12 : decode cX6_sumUnder 12 = .ok (.laload, 1) := by decide +kernel
theorem dX6_sumUnder_13 : decode cX6_sumUnder 13 = .ok (.lreturn, 1) := by decide +kernel
theorem dX6_sumUnder_14 : decode cX6_sumUnder 14 = .ok (.lconst 0, 1) := by decide +kernel
theorem dX6_sumUnder_15 : decode cX6_sumUnder 15 = .ok (.lstore 6, 2) := by decide +kernel
theorem dX6_sumUnder_17 : decode cX6_sumUnder 17 = .ok (.iconst 0, 1) := by decide +kernel
theorem dX6_sumUnder_18 : decode cX6_sumUnder 18 = .ok (.istore 8, 2) := by decide +kernel
theorem dX6_sumUnder_20 : decode cX6_sumUnder 20 = .ok (.iload 8, 2) := by decide +kernel
theorem dX6_sumUnder_22 : decode cX6_sumUnder 22 = .ok (.bipush 16, 2) := by decide +kernel
theorem dX6_sumUnder_24 : decode cX6_sumUnder 24 = .ok (.if_icmp .ge 25, 3) := by decide +kernel
theorem dX6_sumUnder_27 : decode cX6_sumUnder 27 = .ok (.lload 6, 2) := by decide +kernel
theorem dX6_sumUnder_29 : decode cX6_sumUnder 29 = .ok (.aload_n 0, 1) := by decide +kernel
theorem dX6_sumUnder_30 : decode cX6_sumUnder 30 = .ok (.aload_n 1, 1) := by decide +kernel
theorem dX6_sumUnder_31 : decode cX6_sumUnder 31 = .ok (.aload_n 2, 1) := by decide +kernel
theorem dX6_sumUnder_32 : decode cX6_sumUnder 32 = .ok (.iload_n 3, 1) := by decide +kernel
theorem dX6_sumUnder_33 : decode cX6_sumUnder 33 = .ok (.iload 8, 2) := by decide +kernel
theorem dX6_sumUnder_35 : decode cX6_sumUnder 35 = .ok (.lload 4, 2) := by decide +kernel
theorem dX6_sumUnder_37 : decode cX6_sumUnder 37 = .ok (.invokevirtual 75, 3) := by decide +kernel
theorem dX6_sumUnder_40 : decode cX6_sumUnder 40 = .ok (.ladd, 1) := by decide +kernel
theorem dX6_sumUnder_41 : decode cX6_sumUnder 41 = .ok (.lstore 6, 2) := by decide +kernel
theorem dX6_sumUnder_43 : decode cX6_sumUnder 43 = .ok (.iinc 8 1, 3) := by decide +kernel
theorem dX6_sumUnder_46 : decode cX6_sumUnder 46 = .ok (.goto (-26), 3) := by decide +kernel
theorem dX6_sumUnder_49 : decode cX6_sumUnder 49 = .ok (.lload 6, 2) := by decide +kernel
theorem dX6_sumUnder_51 : decode cX6_sumUnder 51 = .ok (.lreturn, 1) := by decide +kernel
theorem dX6_shareUnder_0 : decode cX6_shareUnder 0 = .ok (.iload_n 3, 1) := by decide +kernel
theorem dX6_shareUnder_1 : decode cX6_shareUnder 1 = .ok (.iload 4, 2) := by decide +kernel
theorem dX6_shareUnder_3 : decode cX6_shareUnder 3 = .ok (.invokestatic 31, 3) := by decide +kernel
theorem dX6_shareUnder_6 : decode cX6_shareUnder 6 = .ok (.istore 7, 2) := by decide +kernel
theorem dX6_shareUnder_8 : decode cX6_shareUnder 8 = .ok (.aload_n 0, 1) := by decide +kernel
theorem dX6_shareUnder_9 : decode cX6_shareUnder 9 = .ok (.getfield 15, 3) := by decide +kernel
theorem dX6_shareUnder_12 : decode cX6_shareUnder 12 = .ok (.iload 7, 2) := by decide +kernel
theorem dX6_shareUnder_14 : decode cX6_shareUnder 14 = .ok (.laload, 1) := by decide +kernel
theorem dX6_shareUnder_15 : decode cX6_shareUnder 15 = .ok (.lstore 8, 2) := by decide +kernel
theorem dX6_shareUnder_17 : decode cX6_shareUnder 17 = .ok (.aload_n 0, 1) := by decide +kernel
theorem dX6_shareUnder_18 : decode cX6_shareUnder 18 = .ok (.getfield 19, 3) := by decide +kernel
theorem dX6_shareUnder_21 : decode cX6_shareUnder 21 = .ok (.iload 7, 2) := by decide +kernel
theorem dX6_shareUnder_23 : decode cX6_shareUnder 23 = .ok (.laload, 1) := by decide +kernel
theorem dX6_shareUnder_24 : decode cX6_shareUnder 24 = .ok (.lload 5, 2) := by decide +kernel
theorem dX6_shareUnder_26 : decode cX6_shareUnder 26 = .ok (.land, 1) := by decide +kernel
theorem dX6_shareUnder_27 : decode cX6_shareUnder 27 = .ok (.lconst 0, 1) := by decide +kernel
theorem dX6_shareUnder_28 : decode cX6_shareUnder 28 = .ok (.lcmp, 1) := by decide +kernel
theorem dX6_shareUnder_29 : decode cX6_shareUnder 29 = .ok (.ifCond .ne 6, 3) := by decide +kernel
theorem dX6_shareUnder_32 : decode cX6_shareUnder 32 = .ok (.lload 8, 2) := by decide +kernel
theorem dX6_shareUnder_34 : decode cX6_shareUnder 34 = .ok (.lreturn, 1) := by decide +kernel
theorem dX6_shareUnder_35 : decode cX6_shareUnder 35 = .ok (.aload_n 2, 1) := by decide +kernel
theorem dX6_shareUnder_36 : decode cX6_shareUnder 36 = .ok (.getfield 35, 3) := by decide +kernel
theorem dX6_shareUnder_39 : decode cX6_shareUnder 39 = .ok (.iload_n 3, 1) := by decide +kernel
theorem dX6_shareUnder_40 : decode cX6_shareUnder 40 = .ok (.iaload, 1) := by decide +kernel
theorem dX6_shareUnder_41 : decode cX6_shareUnder 41 = .ok (.aload_n 2, 1) := by decide +kernel
theorem dX6_shareUnder_42 : decode cX6_shareUnder 42 = .ok (.getfield 38, 3) := by decide +kernel
theorem dX6_shareUnder_45 : decode cX6_shareUnder 45 = .ok (.iload_n 3, 1) := by decide +kernel
theorem dX6_shareUnder_46 : decode cX6_shareUnder 46 = .ok (.iaload, 1) := by decide +kernel
theorem dX6_shareUnder_47 : decode cX6_shareUnder 47 = .ok (.invokestatic 66, 3) := by decide +kernel
theorem dX6_shareUnder_50 : decode cX6_shareUnder 50 = .ok (.istore 10, 2) := by decide +kernel
theorem dX6_shareUnder_52 : decode cX6_shareUnder 52 = .ok (.getstatic 45, 3) := by decide +kernel
theorem dX6_shareUnder_55 : decode cX6_shareUnder 55 = .ok (.iload 4, 2) := by decide +kernel
theorem dX6_shareUnder_57 : decode cX6_shareUnder 57 = .ok (.iaload, 1) := by decide +kernel
theorem dX6_shareUnder_58 : decode cX6_shareUnder 58 = .ok (.getstatic 48, 3) := by decide +kernel
theorem dX6_shareUnder_61 : decode cX6_shareUnder 61 = .ok (.iload 4, 2) := by decide +kernel
theorem dX6_shareUnder_63 : decode cX6_shareUnder 63 = .ok (.iaload, 1) := by decide +kernel
theorem dX6_shareUnder_64 : decode cX6_shareUnder 64 = .ok (.invokestatic 66, 3) := by decide +kernel
theorem dX6_shareUnder_67 : decode cX6_shareUnder 67 = .ok (.istore 11, 2) := by decide +kernel
theorem dX6_shareUnder_69 : decode cX6_shareUnder 69 = .ok (.iconst 1, 1) := by decide +kernel
theorem dX6_shareUnder_70 : decode cX6_shareUnder 70 = .ok (.istore 12, 2) := by decide +kernel
theorem dX6_shareUnder_72 : decode cX6_shareUnder 72 = .ok (.iload 12, 2) := by decide +kernel
theorem dX6_shareUnder_74 : decode cX6_shareUnder 74 = .ok (.aload_n 0, 1) := by decide +kernel
theorem dX6_shareUnder_75 : decode cX6_shareUnder 75 = .ok (.getfield 9, 3) := by decide +kernel
theorem dX6_shareUnder_78 : decode cX6_shareUnder 78 = .ok (.iload 7, 2) := by decide +kernel
theorem dX6_shareUnder_80 : decode cX6_shareUnder 80 = .ok (.iaload, 1) := by decide +kernel
theorem dX6_shareUnder_81 : decode cX6_shareUnder 81 = .ok (.if_icmp .ge 61, 3) := by decide +kernel
theorem dX6_shareUnder_84 : decode cX6_shareUnder 84 = .ok (.iload 10, 2) := by decide +kernel
theorem dX6_shareUnder_86 : decode cX6_shareUnder 86 = .ok (.iload 11, 2) := by decide +kernel
theorem dX6_shareUnder_88 : decode cX6_shareUnder 88 = .ok (.iadd, 1) := by decide +kernel
theorem dX6_shareUnder_89 : decode cX6_shareUnder 89 = .ok (.istore 10, 2) := by decide +kernel
theorem dX6_shareUnder_91 : decode cX6_shareUnder 91 = .ok (.iload 10, 2) := by decide +kernel
theorem dX6_shareUnder_93 : decode cX6_shareUnder 93 = .ok (.ifCond .lt 43, 3) := by decide +kernel
theorem dX6_shareUnder_96 : decode cX6_shareUnder 96 = .ok (.iload 10, 2) := by decide +kernel
theorem dX6_shareUnder_98 : decode cX6_shareUnder 98 = .ok (.bipush 64, 2) := by decide +kernel
theorem dX6_shareUnder_100 : decode cX6_shareUnder 100 = .ok (.if_icmp .ge 36, 3) := by decide +kernel
theorem dX6_shareUnder_103 : decode cX6_shareUnder 103 = .ok (.aload_n 1, 1) := by decide +kernel
theorem dX6_shareUnder_104 : decode cX6_shareUnder 104 = .ok (.getfield 63, 3) := by decide +kernel
theorem dX6_shareUnder_107 : decode cX6_shareUnder 107 = .ok (.iload 10, 2) := by decide +kernel
theorem dX6_shareUnder_109 : decode cX6_shareUnder 109 = .ok (.iaload, 1) := by decide +kernel
theorem dX6_shareUnder_110 : decode cX6_shareUnder 110 = .ok (.ifCond .le 26, 3) := by decide +kernel
theorem dX6_shareUnder_113 : decode cX6_shareUnder 113 = .ok (.lload 5, 2) := by decide +kernel
theorem dX6_shareUnder_115 : decode cX6_shareUnder 115 = .ok (.iload 10, 2) := by decide +kernel
theorem dX6_shareUnder_117 : decode cX6_shareUnder 117 = .ok (.invokestatic 79, 3) := by decide +kernel
theorem dX6_shareUnder_120 : decode cX6_shareUnder 120 = .ok (.ifCond .eq 16, 3) := by decide +kernel
theorem dX6_shareUnder_123 : decode cX6_shareUnder 123 = .ok (.lload 8, 2) := by decide +kernel
theorem dX6_shareUnder_125 : decode cX6_shareUnder 125 = .ok (.aload_n 1, 1) := by decide +kernel
theorem dX6_shareUnder_126 : decode cX6_shareUnder 126 = .ok (.getfield 63, 3) := by decide +kernel
theorem dX6_shareUnder_129 : decode cX6_shareUnder 129 = .ok (.iload 10, 2) := by decide +kernel
theorem dX6_shareUnder_131 : decode cX6_shareUnder 131 = .ok (.iaload, 1) := by decide +kernel
theorem dX6_shareUnder_132 : decode cX6_shareUnder 132 = .ok (.i2l, 1) := by decide +kernel
theorem dX6_shareUnder_133 : decode cX6_shareUnder 133 = .ok (.ldiv, 1) := by decide +kernel
theorem dX6_shareUnder_134 : decode cX6_shareUnder 134 = .ok (.lstore 8, 2) := by decide +kernel
theorem dX6_shareUnder_136 : decode cX6_shareUnder 136 = .ok (.iinc 12 1, 3) := by decide +kernel
theorem dX6_shareUnder_139 : decode cX6_shareUnder 139 = .ok (.goto (-67), 3) := by decide +kernel
theorem dX6_shareUnder_142 : decode cX6_shareUnder 142 = .ok (.lload 8, 2) := by decide +kernel
theorem dX6_shareUnder_144 : decode cX6_shareUnder 144 = .ok (.lreturn, 1) := by decide +kernel
theorem dX6_windowsWith_0 : decode cX6_windowsWith 0 = .ok (.lconst 0, 1) := by decide +kernel
theorem dX6_windowsWith_1 : decode cX6_windowsWith 1 = .ok (.lstore 5, 2) := by decide +kernel
theorem dX6_windowsWith_3 : decode cX6_windowsWith 3 = .ok (.iconst 0, 1) := by decide +kernel
theorem dX6_windowsWith_4 : decode cX6_windowsWith 4 = .ok (.istore 7, 2) := by decide +kernel
theorem dX6_windowsWith_6 : decode cX6_windowsWith 6 = .ok (.iload 7, 2) := by decide +kernel
theorem dX6_windowsWith_8 : decode cX6_windowsWith 8 = .ok (.iload_n 2, 1) := by decide +kernel
theorem dX6_windowsWith_9 : decode cX6_windowsWith 9 = .ok (.if_icmp .ge 50, 3) := by decide +kernel
theorem dX6_windowsWith_12 : decode cX6_windowsWith 12 = .ok (.iload 7, 2) := by decide +kernel
theorem dX6_windowsWith_14 : decode cX6_windowsWith 14 = .ok (.iload_n 3, 1) := by decide +kernel
theorem dX6_windowsWith_15 : decode cX6_windowsWith 15 = .ok (.invokestatic 31, 3) := by decide +kernel
theorem dX6_windowsWith_18 : decode cX6_windowsWith 18 = .ok (.istore 8, 2) := by decide +kernel
theorem dX6_windowsWith_20 : decode cX6_windowsWith 20 = .ok (.iload 4, 2) := by decide +kernel
theorem dX6_windowsWith_22 : decode cX6_windowsWith 22 = .ok (.i2l, 1) := by decide +kernel
theorem dX6_windowsWith_23 : decode cX6_windowsWith 23 = .ok (.aload_n 0, 1) := by decide +kernel
theorem dX6_windowsWith_24 : decode cX6_windowsWith 24 = .ok (.getfield 15, 3) := by decide +kernel
theorem dX6_windowsWith_27 : decode cX6_windowsWith 27 = .ok (.iload 8, 2) := by decide +kernel
theorem dX6_windowsWith_29 : decode cX6_windowsWith 29 = .ok (.laload, 1) := by decide +kernel
theorem dX6_windowsWith_30 : decode cX6_windowsWith 30 = .ok (.lmul, 1) := by decide +kernel
theorem dX6_windowsWith_31 : decode cX6_windowsWith 31 = .ok (.iload_n 1, 1) := by decide +kernel
theorem dX6_windowsWith_32 : decode cX6_windowsWith 32 = .ok (.i2l, 1) := by decide +kernel
theorem dX6_windowsWith_33 : decode cX6_windowsWith 33 = .ok (.ldc2_w 51, 3) := by decide +kernel
theorem dX6_windowsWith_36 : decode cX6_windowsWith 36 = .ok (.lmul, 1) := by decide +kernel
theorem dX6_windowsWith_37 : decode cX6_windowsWith 37 = .ok (.lcmp, 1) := by decide +kernel
theorem dX6_windowsWith_38 : decode cX6_windowsWith 38 = .ok (.ifCond .lt 15, 3) := by decide +kernel
theorem dX6_windowsWith_41 : decode cX6_windowsWith 41 = .ok (.lload 5, 2) := by decide +kernel
theorem dX6_windowsWith_43 : decode cX6_windowsWith 43 = .ok (.aload_n 0, 1) := by decide +kernel
theorem dX6_windowsWith_44 : decode cX6_windowsWith 44 = .ok (.getfield 19, 3) := by decide +kernel
theorem dX6_windowsWith_47 : decode cX6_windowsWith 47 = .ok (.iload 8, 2) := by decide +kernel
theorem dX6_windowsWith_49 : decode cX6_windowsWith 49 = .ok (.laload, 1) := by decide +kernel
theorem dX6_windowsWith_50 : decode cX6_windowsWith 50 = .ok (.lor, 1) := by decide +kernel
theorem dX6_windowsWith_51 : decode cX6_windowsWith 51 = .ok (.lstore 5, 2) := by decide +kernel
theorem dX6_windowsWith_53 : decode cX6_windowsWith 53 = .ok (.iinc 7 1, 3) := by decide +kernel
theorem dX6_windowsWith_56 : decode cX6_windowsWith 56 = .ok (.goto (-50), 3) := by decide +kernel
theorem dX6_windowsWith_59 : decode cX6_windowsWith 59 = .ok (.lload 5, 2) := by decide +kernel
theorem dX6_windowsWith_61 : decode cX6_windowsWith 61 = .ok (.lreturn, 1) := by decide +kernel

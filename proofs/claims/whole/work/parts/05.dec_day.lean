theorem dX7_init_0 : decode cX7_init 0 = .ok (.aload_n 0, 1) := by decide +kernel
theorem dX7_init_1 : decode cX7_init 1 = .ok (.invokespecial 3, 3) := by decide +kernel
theorem dX7_init_4 : decode cX7_init 4 = .ok (.aload_n 0, 1) := by decide +kernel
theorem dX7_init_5 : decode cX7_init 5 = .ok (.new 9, 3) := by decide +kernel
theorem dX7_init_8 : decode cX7_init 8 = .ok (.dup, 1) := by decide +kernel
theorem dX7_init_9 : decode cX7_init 9 = .ok (.invokespecial 11, 3) := by decide +kernel
theorem dX7_init_12 : decode cX7_init 12 = .ok (.putfield 12, 3) := by decide +kernel
theorem dX7_init_15 : decode cX7_init 15 = .ok (.aload_n 0, 1) := by decide +kernel
theorem dX7_init_16 : decode cX7_init 16 = .ok (.new 16, 3) := by decide +kernel
theorem dX7_init_19 : decode cX7_init 19 = .ok (.dup, 1) := by decide +kernel
theorem dX7_init_20 : decode cX7_init 20 = .ok (.invokespecial 18, 3) := by decide +kernel
theorem dX7_init_23 : decode cX7_init 23 = .ok (.putfield 19, 3) := by decide +kernel
theorem dX7_init_26 : decode cX7_init 26 = .ok (.aload_n 0, 1) := by decide +kernel
theorem dX7_init_27 : decode cX7_init 27 = .ok (.new 23, 3) := by decide +kernel
theorem dX7_init_30 : decode cX7_init 30 = .ok (.dup, 1) := by decide +kernel
theorem dX7_init_31 : decode cX7_init 31 = .ok (.invokespecial 25, 3) := by decide +kernel
theorem dX7_init_34 : decode cX7_init 34 = .ok (.putfield 26, 3) := by decide +kernel
theorem dX7_init_37 : decode cX7_init 37 = .ok (.aload_n 0, 1) := by decide +kernel
theorem dX7_init_38 : decode cX7_init 38 = .ok (.new 30, 3) := by decide +kernel
theorem dX7_init_41 : decode cX7_init 41 = .ok (.dup, 1) := by decide +kernel
theorem dX7_init_42 : decode cX7_init 42 = .ok (.invokespecial 32, 3) := by decide +kernel
theorem dX7_init_45 : decode cX7_init 45 = .ok (.putfield 33, 3) := by decide +kernel
theorem dX7_init_48 : decode cX7_init 48 = .ok (.aload_n 0, 1) := by decide +kernel
theorem dX7_init_49 : decode cX7_init 49 = .ok (.new 37, 3) := by decide +kernel
theorem dX7_init_52 : decode cX7_init 52 = .ok (.dup, 1) := by decide +kernel
theorem dX7_init_53 : decode cX7_init 53 = .ok (.invokespecial 39, 3) := by decide +kernel
theorem dX7_init_56 : decode cX7_init 56 = .ok (.putfield 40, 3) := by decide +kernel
theorem dX7_init_59 : decode cX7_init 59 = .ok (.aload_n 0, 1) := by decide +kernel
theorem dX7_init_60 : decode cX7_init 60 = .ok (.new 44, 3) := by decide +kernel
theorem dX7_init_63 : decode cX7_init 63 = .ok (.dup, 1) := by decide +kernel
theorem dX7_init_64 : decode cX7_init 64 = .ok (.invokespecial 46, 3) := by decide +kernel
theorem dX7_init_67 : decode cX7_init 67 = .ok (.putfield 47, 3) := by decide +kernel
theorem dX7_init_70 : decode cX7_init 70 = .ok (.aload_n 0, 1) := by decide +kernel
theorem dX7_init_71 : decode cX7_init 71 = .ok (.new 51, 3) := by decide +kernel
theorem dX7_init_74 : decode cX7_init 74 = .ok (.dup, 1) := by decide +kernel
theorem dX7_init_75 : decode cX7_init 75 = .ok (.invokespecial 53, 3) := by decide +kernel
theorem dX7_init_78 : decode cX7_init 78 = .ok (.putfield 54, 3) := by decide +kernel
theorem dX7_init_81 : decode cX7_init 81 = .ok (.return_, 1) := by decide +kernel
theorem dX7_cell_0 : decode cX7_cell 0 = .ok (.iload_n 1, 1) := by decide +kernel
theorem dX7_cell_1 : decode cX7_cell 1 = .ok (.iload_n 2, 1) := by decide +kernel
theorem dX7_cell_2 : decode cX7_cell 2 = .ok (.invokestatic 58, 3) := by decide +kernel
theorem dX7_cell_5 : decode cX7_cell 5 = .ok (.ifCond .ne 6, 3) := by decide +kernel
theorem dX7_cell_8 : decode cX7_cell 8 = .ok (.bipush (-2), 2) := by decide +kernel
theorem dX7_cell_10 : decode cX7_cell 10 = .ok (.ireturn, 1) := by decide +kernel
theorem dX7_cell_11 : decode cX7_cell 11 = .ok (.iload_n 3, 1) := by decide +kernel
theorem dX7_cell_12 : decode cX7_cell 12 = .ok (.ifCond .eq 11, 3) := by decide +kernel
theorem dX7_cell_15 : decode cX7_cell 15 = .ok (.iload_n 3, 1) := by decide +kernel
theorem dX7_cell_16 : decode cX7_cell 16 = .ok (.iconst 1, 1) := by decide +kernel
theorem dX7_cell_17 : decode cX7_cell 17 = .ok (.if_icmp .eq 6, 3) := by decide +kernel
theorem dX7_cell_20 : decode cX7_cell 20 = .ok (.bipush (-3), 2) := by decide +kernel
theorem dX7_cell_22 : decode cX7_cell 22 = .ok (.ireturn, 1) := by decide +kernel
theorem dX7_cell_23 : decode cX7_cell 23 = .ok (.aload_n 0, 1) := by decide +kernel
theorem dX7_cell_24 : decode cX7_cell 24 = .ok (.getfield 12, 3) := by decide +kernel
theorem dX7_cell_27 : decode cX7_cell 27 = .ok (.iload_n 1, 1) := by decide +kernel
theorem dX7_cell_28 : decode cX7_cell 28 = .ok (.iload_n 2, 1) := by decide +kernel
theorem dX7_cell_29 : decode cX7_cell 29 = .ok (.invokestatic 62, 3) := by decide +kernel
theorem dX7_cell_32 : decode cX7_cell 32 = .ok (.iload_n 3, 1) := by decide +kernel
theorem dX7_cell_33 : decode cX7_cell 33 = .ok (.iconst 0, 1) := by decide +kernel
theorem dX7_cell_34 : decode cX7_cell 34 = .ok (.iconst 0, 1) := by decide +kernel
theorem dX7_cell_35 : decode cX7_cell 35 = .ok (.invokevirtual 66, 3) := by decide +kernel
theorem dX7_cell_38 : decode cX7_cell 38 = .ok (.ireturn, 1) := by decide +kernel
theorem dX7_window_0 : decode cX7_window 0 = .ok (.iload_n 1, 1) := by decide +kernel
theorem dX7_window_1 : decode cX7_window 1 = .ok (.iload_n 2, 1) := by decide +kernel
theorem dX7_window_2 : decode cX7_window 2 = .ok (.invokestatic 58, 3) := by decide +kernel
theorem dX7_window_5 : decode cX7_window 5 = .ok (.ifCond .ne 6, 3) := by decide +kernel
theorem dX7_window_8 : decode cX7_window 8 = .ok (.bipush (-2), 2) := by decide +kernel
theorem dX7_window_10 : decode cX7_window 10 = .ok (.ireturn, 1) := by decide +kernel
theorem dX7_window_11 : decode cX7_window 11 = .ok (.iload_n 3, 1) := by decide +kernel
theorem dX7_window_12 : decode cX7_window 12 = .ok (.iconst 1, 1) := by decide +kernel
theorem dX7_window_13 : decode cX7_window 13 = .ok (.bipush 8, 2) := by decide +kernel
theorem dX7_window_15 : decode cX7_window 15 = .ok (.invokestatic 70, 3) := by decide +kernel
theorem dX7_window_18 : decode cX7_window 18 = .ok (.ifCond .ne 6, 3) := by decide +kernel
theorem dX7_window_21 : decode cX7_window 21 = .ok (.bipush (-3), 2) := by decide +kernel
theorem dX7_window_23 : decode cX7_window 23 = .ok (.ireturn, 1) := by decide +kernel
theorem dX7_window_24 : decode cX7_window 24 = .ok (.aload_n 0, 1) := by decide +kernel
theorem dX7_window_25 : decode cX7_window 25 = .ok (.getfield 12, 3) := by decide +kernel
theorem dX7_window_28 : decode cX7_window 28 = .ok (.iload_n 1, 1) := by decide +kernel
theorem dX7_window_29 : decode cX7_window 29 = .ok (.iload_n 2, 1) := by decide +kernel
theorem dX7_window_30 : decode cX7_window 30 = .ok (.invokestatic 62, 3) := by decide +kernel
theorem dX7_window_33 : decode cX7_window 33 = .ok (.iconst 2, 1) := by decide +kernel
theorem dX7_window_34 : decode cX7_window 34 = .ok (.iload_n 3, 1) := by decide +kernel
theorem dX7_window_35 : decode cX7_window 35 = .ok (.iload 4, 2) := by decide +kernel
theorem dX7_window_37 : decode cX7_window 37 = .ok (.invokevirtual 66, 3) := by decide +kernel
theorem dX7_window_40 : decode cX7_window 40 = .ok (.ireturn, 1) := by decide +kernel
theorem dX7_at_0 : decode cX7_at 0 = .ok (.iload_n 1, 1) := by decide +kernel
theorem dX7_at_1 : decode cX7_at 1 = .ok (.iload_n 2, 1) := by decide +kernel
theorem dX7_at_2 : decode cX7_at 2 = .ok (.invokestatic 58, 3) := by decide +kernel
theorem dX7_at_5 : decode cX7_at 5 = .ok (.ifCond .ne 6, 3) := by decide +kernel
theorem dX7_at_8 : decode cX7_at 8 = .ok (.bipush (-2), 2) := by decide +kernel
theorem dX7_at_10 : decode cX7_at 10 = .ok (.ireturn, 1) := by decide +kernel
theorem dX7_at_11 : decode cX7_at 11 = .ok (.iload_n 1, 1) := by decide +kernel
theorem dX7_at_12 : decode cX7_at 12 = .ok (.iload_n 2, 1) := by decide +kernel
theorem dX7_at_13 : decode cX7_at 13 = .ok (.invokestatic 62, 3) := by decide +kernel
theorem dX7_at_16 : decode cX7_at 16 = .ok (.istore 4, 2) := by decide +kernel
theorem dX7_at_18 : decode cX7_at 18 = .ok (.iload_n 3, 1) := by decide +kernel
theorem dX7_at_19 : decode cX7_at 19 = .ok (.tableswitch 65 0 2 #[25, 36, 47], 25) := by decide +kernel
theorem dX7_at_44 : decode cX7_at 44 = .ok (.aload_n 0, 1) := by decide +kernel
theorem dX7_at_45 : decode cX7_at 45 = .ok (.getfield 12, 3) := by decide +kernel
theorem dX7_at_48 : decode cX7_at 48 = .ok (.getfield 74, 3) := by decide +kernel
theorem dX7_at_51 : decode cX7_at 51 = .ok (.iload 4, 2) := by decide +kernel
theorem dX7_at_53 : decode cX7_at 53 = .ok (.iaload, 1) := by decide +kernel
theorem dX7_at_54 : decode cX7_at 54 = .ok (.ireturn, 1) := by decide +kernel
theorem dX7_at_55 : decode cX7_at 55 = .ok (.aload_n 0, 1) := by decide +kernel
theorem dX7_at_56 : decode cX7_at 56 = .ok (.getfield 12, 3) := by decide +kernel
theorem dX7_at_59 : decode cX7_at 59 = .ok (.getfield 78, 3) := by decide +kernel
theorem dX7_at_62 : decode cX7_at 62 = .ok (.iload 4, 2) := by decide +kernel
theorem dX7_at_64 : decode cX7_at 64 = .ok (.iaload, 1) := by decide +kernel
theorem dX7_at_65 : decode cX7_at 65 = .ok (.ireturn, 1) := by decide +kernel
theorem dX7_at_66 : decode cX7_at 66 = .ok (.aload_n 0, 1) := by decide +kernel
theorem dX7_at_67 : decode cX7_at 67 = .ok (.getfield 12, 3) := by decide +kernel
theorem dX7_at_70 : decode cX7_at 70 = .ok (.iload 4, 2) := by decide +kernel
theorem dX7_at_72 : decode cX7_at 72 = .ok (.invokevirtual 81, 3) := by decide +kernel
theorem dX7_at_75 : decode cX7_at 75 = .ok (.ifCond .eq 7, 3) := by decide +kernel
theorem dX7_at_78 : decode cX7_at 78 = .ok (.iconst 1, 1) := by decide +kernel
theorem dX7_at_79 : decode cX7_at 79 = .ok (.goto 4, 3) := by decide +kernel
theorem dX7_at_82 : decode cX7_at 82 = .ok (.iconst 0, 1) := by decide +kernel
theorem dX7_at_83 : decode cX7_at 83 = .ok (.ireturn, 1) := by decide +kernel
theorem dX7_at_84 : decode cX7_at 84 = .ok (.bipush (-3), 2) := by decide +kernel
theorem dX7_at_86 : decode cX7_at 86 = .ok (.ireturn, 1) := by decide +kernel
theorem dX7_desk_0 : decode cX7_desk 0 = .ok (.iload_n 1, 1) := by decide +kernel
theorem dX7_desk_1 : decode cX7_desk 1 = .ok (.iload_n 2, 1) := by decide +kernel
theorem dX7_desk_2 : decode cX7_desk 2 = .ok (.invokestatic 58, 3) := by decide +kernel
theorem dX7_desk_5 : decode cX7_desk 5 = .ok (.ifCond .ne 6, 3) := by decide +kernel
theorem dX7_desk_8 : decode cX7_desk 8 = .ok (.bipush (-2), 2) := by decide +kernel
theorem dX7_desk_10 : decode cX7_desk 10 = .ok (.ireturn, 1) := by decide +kernel
theorem dX7_desk_11 : decode cX7_desk 11 = .ok (.aload_n 0, 1) := by decide +kernel
theorem dX7_desk_12 : decode cX7_desk 12 = .ok (.getfield 19, 3) := by decide +kernel
theorem dX7_desk_15 : decode cX7_desk 15 = .ok (.getfield 85, 3) := by decide +kernel
theorem dX7_desk_18 : decode cX7_desk 18 = .ok (.iconst 4, 1) := by decide +kernel
theorem dX7_desk_19 : decode cX7_desk 19 = .ok (.if_icmp .lt 6, 3) := by decide +kernel
theorem dX7_desk_22 : decode cX7_desk 22 = .ok (.bipush (-5), 2) := by decide +kernel
theorem dX7_desk_24 : decode cX7_desk 24 = .ok (.ireturn, 1) := by decide +kernel
theorem dX7_desk_25 : decode cX7_desk 25 = .ok (.aload_n 0, 1) := by decide +kernel
theorem dX7_desk_26 : decode cX7_desk 26 = .ok (.getfield 19, 3) := by decide +kernel
theorem dX7_desk_29 : decode cX7_desk 29 = .ok (.getfield 85, 3) := by decide +kernel
theorem dX7_desk_32 : decode cX7_desk 32 = .ok (.istore_n 3, 1) := by decide +kernel
theorem dX7_desk_33 : decode cX7_desk 33 = .ok (.aload_n 0, 1) := by decide +kernel
theorem dX7_desk_34 : decode cX7_desk 34 = .ok (.getfield 19, 3) := by decide +kernel
theorem dX7_desk_37 : decode cX7_desk 37 = .ok (.dup, 1) := by decide +kernel
theorem dX7_desk_38 : decode cX7_desk 38 = .ok (.getfield 85, 3) := by decide +kernel
theorem dX7_desk_41 : decode cX7_desk 41 = .ok (.iconst 1, 1) := by decide +kernel
theorem dX7_desk_42 : decode cX7_desk 42 = .ok (.iadd, 1) := by decide +kernel
theorem dX7_desk_43 : decode cX7_desk 43 = .ok (.putfield 85, 3) := by decide +kernel
theorem dX7_desk_46 : decode cX7_desk 46 = .ok (.aload_n 0, 1) := by decide +kernel
theorem dX7_desk_47 : decode cX7_desk 47 = .ok (.getfield 19, 3) := by decide +kernel
theorem dX7_desk_50 : decode cX7_desk 50 = .ok (.iload_n 3, 1) := by decide +kernel
theorem dX7_desk_51 : decode cX7_desk 51 = .ok (.iload_n 1, 1) := by decide +kernel
theorem dX7_desk_52 : decode cX7_desk 52 = .ok (.iload_n 2, 1) := by decide +kernel
theorem dX7_desk_53 : decode cX7_desk 53 = .ok (.invokevirtual 89, 3) := by decide +kernel
theorem dX7_desk_56 : decode cX7_desk 56 = .ok (.iload_n 3, 1) := by decide +kernel
theorem dX7_desk_57 : decode cX7_desk 57 = .ok (.ireturn, 1) := by decide +kernel
theorem dX7_move_0 : decode cX7_move 0 = .ok (.aload_n 0, 1) := by decide +kernel
theorem dX7_move_1 : decode cX7_move 1 = .ok (.getfield 19, 3) := by decide +kernel
theorem dX7_move_4 : decode cX7_move 4 = .ok (.iload_n 1, 1) := by decide +kernel
theorem dX7_move_5 : decode cX7_move 5 = .ok (.invokevirtual 92, 3) := by decide +kernel
theorem dX7_move_8 : decode cX7_move 8 = .ok (.ifCond .eq 11, 3) := by decide +kernel
theorem dX7_move_11 : decode cX7_move 11 = .ok (.iload_n 2, 1) := by decide +kernel
theorem dX7_move_12 : decode cX7_move 12 = .ok (.iload_n 3, 1) := by decide +kernel
theorem dX7_move_13 : decode cX7_move 13 = .ok (.invokestatic 58, 3) := by decide +kernel
theorem dX7_move_16 : decode cX7_move 16 = .ok (.ifCond .ne 6, 3) := by decide +kernel
theorem dX7_move_19 : decode cX7_move 19 = .ok (.bipush (-2), 2) := by decide +kernel
theorem dX7_move_21 : decode cX7_move 21 = .ok (.ireturn, 1) := by decide +kernel
theorem dX7_move_22 : decode cX7_move 22 = .ok (.aload_n 0, 1) := by decide +kernel
theorem dX7_move_23 : decode cX7_move 23 = .ok (.getfield 19, 3) := by decide +kernel
theorem dX7_move_26 : decode cX7_move 26 = .ok (.iload_n 1, 1) := by decide +kernel
theorem dX7_move_27 : decode cX7_move 27 = .ok (.iload_n 2, 1) := by decide +kernel
theorem dX7_move_28 : decode cX7_move 28 = .ok (.iload_n 3, 1) := by decide +kernel
theorem dX7_move_29 : decode cX7_move 29 = .ok (.invokevirtual 89, 3) := by decide +kernel
theorem dX7_move_32 : decode cX7_move 32 = .ok (.iconst 1, 1) := by decide +kernel
theorem dX7_move_33 : decode cX7_move 33 = .ok (.ireturn, 1) := by decide +kernel
theorem dX7_ray_0 : decode cX7_ray 0 = .ok (.aload_n 0, 1) := by decide +kernel
theorem dX7_ray_1 : decode cX7_ray 1 = .ok (.getfield 19, 3) := by decide +kernel
theorem dX7_ray_4 : decode cX7_ray 4 = .ok (.iload_n 1, 1) := by decide +kernel
theorem dX7_ray_5 : decode cX7_ray 5 = .ok (.invokevirtual 92, 3) := by decide +kernel
theorem dX7_ray_8 : decode cX7_ray 8 = .ok (.ifCond .eq 10, 3) := by decide +kernel
theorem dX7_ray_11 : decode cX7_ray 11 = .ok (.iload_n 2, 1) := by decide +kernel
theorem dX7_ray_12 : decode cX7_ray 12 = .ok (.invokestatic 95, 3) := by decide +kernel
theorem dX7_ray_15 : decode cX7_ray 15 = .ok (.ifCond .ne 6, 3) := by decide +kernel
theorem dX7_ray_18 : decode cX7_ray 18 = .ok (.bipush (-2), 2) := by decide +kernel
theorem dX7_ray_20 : decode cX7_ray 20 = .ok (.ireturn, 1) := by decide +kernel
theorem dX7_ray_21 : decode cX7_ray 21 = .ok (.aload_n 0, 1) := by decide +kernel
theorem dX7_ray_22 : decode cX7_ray 22 = .ok (.getfield 33, 3) := by decide +kernel
theorem dX7_ray_25 : decode cX7_ray 25 = .ok (.aload_n 0, 1) := by decide +kernel
theorem dX7_ray_26 : decode cX7_ray 26 = .ok (.getfield 12, 3) := by decide +kernel
theorem dX7_ray_29 : decode cX7_ray 29 = .ok (.aload_n 0, 1) := by decide +kernel
theorem dX7_ray_30 : decode cX7_ray 30 = .ok (.getfield 19, 3) := by decide +kernel
theorem dX7_ray_33 : decode cX7_ray 33 = .ok (.invokevirtual 98, 3) := by decide +kernel
theorem dX7_ray_36 : decode cX7_ray 36 = .ok (.aload_n 0, 1) := by decide +kernel
theorem dX7_ray_37 : decode cX7_ray 37 = .ok (.getfield 33, 3) := by decide +kernel
theorem dX7_ray_40 : decode cX7_ray 40 = .ok (.getfield 102, 3) := by decide +kernel
theorem dX7_ray_43 : decode cX7_ray 43 = .ok (.iload_n 1, 1) := by decide +kernel
theorem dX7_ray_44 : decode cX7_ray 44 = .ok (.iload_n 2, 1) := by decide +kernel
theorem dX7_ray_45 : decode cX7_ray 45 = .ok (.invokestatic 105, 3) := by decide +kernel
theorem dX7_ray_48 : decode cX7_ray 48 = .ok (.iaload, 1) := by decide +kernel
theorem dX7_ray_49 : decode cX7_ray 49 = .ok (.ireturn, 1) := by decide +kernel
theorem dX7_sky_0 : decode cX7_sky 0 = .ok (.aload_n 0, 1) := by decide +kernel
theorem dX7_sky_1 : decode cX7_sky 1 = .ok (.getfield 19, 3) := by decide +kernel
theorem dX7_sky_4 : decode cX7_sky 4 = .ok (.iload_n 1, 1) := by decide +kernel
theorem dX7_sky_5 : decode cX7_sky 5 = .ok (.invokevirtual 92, 3) := by decide +kernel
theorem dX7_sky_8 : decode cX7_sky 8 = .ok (.ifCond .ne 6, 3) := by decide +kernel
theorem dX7_sky_11 : decode cX7_sky 11 = .ok (.bipush (-2), 2) := by decide +kernel
theorem dX7_sky_13 : decode cX7_sky 13 = .ok (.ireturn, 1) := by decide +kernel
theorem dX7_sky_14 : decode cX7_sky 14 = .ok (.aload_n 0, 1) := by decide +kernel
theorem dX7_sky_15 : decode cX7_sky 15 = .ok (.getfield 33, 3) := by decide +kernel
theorem dX7_sky_18 : decode cX7_sky 18 = .ok (.aload_n 0, 1) := by decide +kernel
theorem dX7_sky_19 : decode cX7_sky 19 = .ok (.getfield 12, 3) := by decide +kernel
theorem dX7_sky_22 : decode cX7_sky 22 = .ok (.aload_n 0, 1) := by decide +kernel
theorem dX7_sky_23 : decode cX7_sky 23 = .ok (.getfield 19, 3) := by decide +kernel
theorem dX7_sky_26 : decode cX7_sky 26 = .ok (.invokevirtual 98, 3) := by decide +kernel
theorem dX7_sky_29 : decode cX7_sky 29 = .ok (.aload_n 0, 1) := by decide +kernel
theorem dX7_sky_30 : decode cX7_sky 30 = .ok (.getfield 33, 3) := by decide +kernel
theorem dX7_sky_33 : decode cX7_sky 33 = .ok (.iload_n 1, 1) := by decide +kernel
theorem dX7_sky_34 : decode cX7_sky 34 = .ok (.invokevirtual 108, 3) := by decide +kernel
theorem dX7_sky_37 : decode cX7_sky 37 = .ok (.ireturn, 1) := by decide +kernel
theorem dX7_bright_0 : decode cX7_bright 0 = .ok (.iload_n 1, 1) := by decide +kernel
theorem dX7_bright_1 : decode cX7_bright 1 = .ok (.invokestatic 112, 3) := by decide +kernel
theorem dX7_bright_4 : decode cX7_bright 4 = .ok (.ifCond .ne 6, 3) := by decide +kernel
theorem dX7_bright_7 : decode cX7_bright 7 = .ok (.bipush (-2), 2) := by decide +kernel
theorem dX7_bright_9 : decode cX7_bright 9 = .ok (.ireturn, 1) := by decide +kernel
theorem dX7_bright_10 : decode cX7_bright 10 = .ok (.iload_n 2, 1) := by decide +kernel
theorem dX7_bright_11 : decode cX7_bright 11 = .ok (.iconst 0, 1) := by decide +kernel
theorem dX7_bright_12 : decode cX7_bright 12 = .ok (.sipush 1000, 3) := by decide +kernel
theorem dX7_bright_15 : decode cX7_bright 15 = .ok (.invokestatic 70, 3) := by decide +kernel
theorem dX7_bright_18 : decode cX7_bright 18 = .ok (.ifCond .ne 6, 3) := by decide +kernel
theorem dX7_bright_21 : decode cX7_bright 21 = .ok (.bipush (-3), 2) := by decide +kernel
theorem dX7_bright_23 : decode cX7_bright 23 = .ok (.ireturn, 1) := by decide +kernel
theorem dX7_bright_24 : decode cX7_bright 24 = .ok (.aload_n 0, 1) := by decide +kernel
theorem dX7_bright_25 : decode cX7_bright 25 = .ok (.getfield 26, 3) := by decide +kernel
theorem dX7_bright_28 : decode cX7_bright 28 = .ok (.getfield 115, 3) := by decide +kernel
theorem dX7_bright_31 : decode cX7_bright 31 = .ok (.iload_n 1, 1) := by decide +kernel
theorem dX7_bright_32 : decode cX7_bright 32 = .ok (.iload_n 2, 1) := by decide +kernel
theorem dX7_bright_33 : decode cX7_bright 33 = .ok (.iastore, 1) := by decide +kernel
theorem dX7_bright_34 : decode cX7_bright 34 = .ok (.aload_n 0, 1) := by decide +kernel
theorem dX7_bright_35 : decode cX7_bright 35 = .ok (.getfield 26, 3) := by decide +kernel
theorem dX7_bright_38 : decode cX7_bright 38 = .ok (.getfield 118, 3) := by decide +kernel
theorem dX7_bright_41 : decode cX7_bright 41 = .ok (.iload_n 1, 1) := by decide +kernel
theorem dX7_bright_42 : decode cX7_bright 42 = .ok (.iconst 0, 1) := by decide +kernel
theorem dX7_bright_43 : decode cX7_bright 43 = .ok (.iastore, 1) := by decide +kernel
theorem dX7_bright_44 : decode cX7_bright 44 = .ok (.aload_n 0, 1) := by decide +kernel
theorem dX7_bright_45 : decode cX7_bright 45 = .ok (.getfield 26, 3) := by decide +kernel
theorem dX7_bright_48 : decode cX7_bright 48 = .ok (.getfield 121, 3) := by decide +kernel
theorem dX7_bright_51 : decode cX7_bright 51 = .ok (.iload_n 1, 1) := by decide +kernel
theorem dX7_bright_52 : decode cX7_bright 52 = .ok (.iconst 0, 1) := by decide +kernel
theorem dX7_bright_53 : decode cX7_bright 53 = .ok (.bastore, 1) := by decide +kernel
theorem dX7_bright_54 : decode cX7_bright 54 = .ok (.iconst 1, 1) := by decide +kernel
theorem dX7_bright_55 : decode cX7_bright 55 = .ok (.ireturn, 1) := by decide +kernel
theorem dX7_sun_0 : decode cX7_sun 0 = .ok (.iload_n 1, 1) := by decide +kernel
theorem dX7_sun_1 : decode cX7_sun 1 = .ok (.invokestatic 112, 3) := by decide +kernel
theorem dX7_sun_4 : decode cX7_sun 4 = .ok (.ifCond .eq 10, 3) := by decide +kernel
theorem dX7_sun_7 : decode cX7_sun 7 = .ok (.iload_n 2, 1) := by decide +kernel
theorem dX7_sun_8 : decode cX7_sun 8 = .ok (.invokestatic 95, 3) := by decide +kernel
theorem dX7_sun_11 : decode cX7_sun 11 = .ok (.ifCond .ne 6, 3) := by decide +kernel
theorem dX7_sun_14 : decode cX7_sun 14 = .ok (.bipush (-2), 2) := by decide +kernel
theorem dX7_sun_16 : decode cX7_sun 16 = .ok (.ireturn, 1) := by decide +kernel
theorem dX7_sun_17 : decode cX7_sun 17 = .ok (.iload_n 3, 1) := by decide +kernel
theorem dX7_sun_18 : decode cX7_sun 18 = .ok (.iconst 0, 1) := by decide +kernel
theorem dX7_sun_19 : decode cX7_sun 19 = .ok (.sipush 1000, 3) := by decide +kernel
theorem dX7_sun_22 : decode cX7_sun 22 = .ok (.invokestatic 70, 3) := by decide +kernel
theorem dX7_sun_25 : decode cX7_sun 25 = .ok (.ifCond .ne 6, 3) := by decide +kernel
theorem dX7_sun_28 : decode cX7_sun 28 = .ok (.bipush (-3), 2) := by decide +kernel
theorem dX7_sun_30 : decode cX7_sun 30 = .ok (.ireturn, 1) := by decide +kernel
theorem dX7_sun_31 : decode cX7_sun 31 = .ok (.aload_n 0, 1) := by decide +kernel
theorem dX7_sun_32 : decode cX7_sun 32 = .ok (.getfield 26, 3) := by decide +kernel
theorem dX7_sun_35 : decode cX7_sun 35 = .ok (.getfield 121, 3) := by decide +kernel
theorem dX7_sun_38 : decode cX7_sun 38 = .ok (.iload_n 1, 1) := by decide +kernel
theorem dX7_sun_39 : decode cX7_sun 39 = .ok (.baload, 1) := by decide +kernel
theorem dX7_sun_40 : decode cX7_sun 40 = .ok (.ifCond .eq 6, 3) := by decide +kernel
theorem dX7_sun_43 : decode cX7_sun 43 = .ok (.bipush (-4), 2) := by decide +kernel
theorem dX7_sun_45 : decode cX7_sun 45 = .ok (.ireturn, 1) := by decide +kernel
theorem dX7_sun_46 : decode cX7_sun 46 = .ok (.aload_n 0, 1) := by decide +kernel
theorem dX7_sun_47 : decode cX7_sun 47 = .ok (.getfield 26, 3) := by decide +kernel
theorem dX7_sun_50 : decode cX7_sun 50 = .ok (.getfield 125, 3) := by decide +kernel
theorem dX7_sun_53 : decode cX7_sun 53 = .ok (.iload_n 1, 1) := by decide +kernel
theorem dX7_sun_54 : decode cX7_sun 54 = .ok (.iload_n 2, 1) := by decide +kernel
theorem dX7_sun_55 : decode cX7_sun 55 = .ok (.iastore, 1) := by decide +kernel
theorem dX7_sun_56 : decode cX7_sun 56 = .ok (.aload_n 0, 1) := by decide +kernel
theorem dX7_sun_57 : decode cX7_sun 57 = .ok (.getfield 26, 3) := by decide +kernel
theorem dX7_sun_60 : decode cX7_sun 60 = .ok (.getfield 118, 3) := by decide +kernel
theorem dX7_sun_63 : decode cX7_sun 63 = .ok (.iload_n 1, 1) := by decide +kernel
theorem dX7_sun_64 : decode cX7_sun 64 = .ok (.iload_n 3, 1) := by decide +kernel
theorem dX7_sun_65 : decode cX7_sun 65 = .ok (.iastore, 1) := by decide +kernel
theorem dX7_sun_66 : decode cX7_sun 66 = .ok (.iconst 1, 1) := by decide +kernel
theorem dX7_sun_67 : decode cX7_sun 67 = .ok (.ireturn, 1) := by decide +kernel
theorem dX7_lose_0 : decode cX7_lose 0 = .ok (.iload_n 1, 1) := by decide +kernel
theorem dX7_lose_1 : decode cX7_lose 1 = .ok (.invokestatic 112, 3) := by decide +kernel
theorem dX7_lose_4 : decode cX7_lose 4 = .ok (.ifCond .ne 6, 3) := by decide +kernel
theorem dX7_lose_7 : decode cX7_lose 7 = .ok (.bipush (-2), 2) := by decide +kernel
theorem dX7_lose_9 : decode cX7_lose 9 = .ok (.ireturn, 1) := by decide +kernel
theorem dX7_lose_10 : decode cX7_lose 10 = .ok (.aload_n 0, 1) := by decide +kernel
theorem dX7_lose_11 : decode cX7_lose 11 = .ok (.getfield 26, 3) := by decide +kernel
theorem dX7_lose_14 : decode cX7_lose 14 = .ok (.getfield 121, 3) := by decide +kernel
theorem dX7_lose_17 : decode cX7_lose 17 = .ok (.iload_n 1, 1) := by decide +kernel
theorem dX7_lose_18 : decode cX7_lose 18 = .ok (.baload, 1) := by decide +kernel
theorem dX7_lose_19 : decode cX7_lose 19 = .ok (.ifCond .eq 6, 3) := by decide +kernel
theorem dX7_lose_22 : decode cX7_lose 22 = .ok (.bipush (-4), 2) := by decide +kernel
theorem dX7_lose_24 : decode cX7_lose 24 = .ok (.ireturn, 1) := by decide +kernel
theorem dX7_lose_25 : decode cX7_lose 25 = .ok (.aload_n 0, 1) := by decide +kernel
theorem dX7_lose_26 : decode cX7_lose 26 = .ok (.getfield 26, 3) := by decide +kernel
theorem dX7_lose_29 : decode cX7_lose 29 = .ok (.getfield 121, 3) := by decide +kernel
theorem dX7_lose_32 : decode cX7_lose 32 = .ok (.iload_n 1, 1) := by decide +kernel
theorem dX7_lose_33 : decode cX7_lose 33 = .ok (.iconst 1, 1) := by decide +kernel
theorem dX7_lose_34 : decode cX7_lose 34 = .ok (.bastore, 1) := by decide +kernel
theorem dX7_lose_35 : decode cX7_lose 35 = .ok (.iconst 1, 1) := by decide +kernel
theorem dX7_lose_36 : decode cX7_lose 36 = .ok (.ireturn, 1) := by decide +kernel
theorem dX7_set_0 : decode cX7_set 0 = .ok (.iload_n 1, 1) := by decide +kernel
theorem dX7_set_1 : decode cX7_set 1 = .ok (.ifCond .ne 33, 3) := by decide +kernel
theorem dX7_set_4 : decode cX7_set 4 = .ok (.iload_n 2, 1) := by decide +kernel
theorem dX7_set_5 : decode cX7_set 5 = .ok (.iconst 0, 1) := by decide +kernel
theorem dX7_set_6 : decode cX7_set 6 = .ok (.sipush 1000, 3) := by decide +kernel
theorem dX7_set_9 : decode cX7_set 9 = .ok (.invokestatic 70, 3) := by decide +kernel
theorem dX7_set_12 : decode cX7_set 12 = .ok (.ifCond .eq 22, 3) := by decide +kernel
theorem dX7_set_15 : decode cX7_set 15 = .ok (.aload_n 0, 1) := by decide +kernel
theorem dX7_set_16 : decode cX7_set 16 = .ok (.getfield 26, 3) := by decide +kernel
theorem dX7_set_19 : decode cX7_set 19 = .ok (.getfield 128, 3) := by decide +kernel
theorem dX7_set_22 : decode cX7_set 22 = .ok (.istore_n 3, 1) := by decide +kernel
theorem dX7_set_23 : decode cX7_set 23 = .ok (.aload_n 0, 1) := by decide +kernel
theorem dX7_set_24 : decode cX7_set 24 = .ok (.getfield 26, 3) := by decide +kernel
theorem dX7_set_27 : decode cX7_set 27 = .ok (.iload_n 2, 1) := by decide +kernel
theorem dX7_set_28 : decode cX7_set 28 = .ok (.putfield 128, 3) := by decide +kernel
theorem dX7_set_31 : decode cX7_set 31 = .ok (.goto 41, 3) := by decide +kernel
theorem dX7_set_34 : decode cX7_set 34 = .ok (.iload_n 1, 1) := by decide +kernel
theorem dX7_set_35 : decode cX7_set 35 = .ok (.iconst 1, 1) := by decide +kernel
theorem dX7_set_36 : decode cX7_set 36 = .ok (.if_icmp .ne 33, 3) := by decide +kernel
theorem dX7_set_39 : decode cX7_set 39 = .ok (.iload_n 2, 1) := by decide +kernel
theorem dX7_set_40 : decode cX7_set 40 = .ok (.iconst 0, 1) := by decide +kernel
theorem dX7_set_41 : decode cX7_set 41 = .ok (.sipush 2000, 3) := by decide +kernel
theorem dX7_set_44 : decode cX7_set 44 = .ok (.invokestatic 70, 3) := by decide +kernel
theorem dX7_set_47 : decode cX7_set 47 = .ok (.ifCond .eq 22, 3) := by decide +kernel
theorem dX7_set_50 : decode cX7_set 50 = .ok (.aload_n 0, 1) := by decide +kernel
theorem dX7_set_51 : decode cX7_set 51 = .ok (.getfield 26, 3) := by decide +kernel
theorem dX7_set_54 : decode cX7_set 54 = .ok (.getfield 131, 3) := by decide +kernel
theorem dX7_set_57 : decode cX7_set 57 = .ok (.istore_n 3, 1) := by decide +kernel
theorem dX7_set_58 : decode cX7_set 58 = .ok (.aload_n 0, 1) := by decide +kernel
theorem dX7_set_59 : decode cX7_set 59 = .ok (.getfield 26, 3) := by decide +kernel
theorem dX7_set_62 : decode cX7_set 62 = .ok (.iload_n 2, 1) := by decide +kernel
theorem dX7_set_63 : decode cX7_set 63 = .ok (.putfield 131, 3) := by decide +kernel
theorem dX7_set_66 : decode cX7_set 66 = .ok (.goto 6, 3) := by decide +kernel
theorem dX7_set_69 : decode cX7_set 69 = .ok (.bipush (-3), 2) := by decide +kernel
theorem dX7_set_71 : decode cX7_set 71 = .ok (.istore_n 3, 1) := by decide +kernel
theorem dX7_set_72 : decode cX7_set 72 = .ok (.iload_n 3, 1) := by decide +kernel
theorem dX7_set_73 : decode cX7_set 73 = .ok (.ireturn, 1) := by decide +kernel
theorem dX7_law_0 : decode cX7_law 0 = .ok (.iload_n 1, 1) := by decide +kernel
theorem dX7_law_1 : decode cX7_law 1 = .ok (.iconst 0, 1) := by decide +kernel
theorem dX7_law_2 : decode cX7_law 2 = .ok (.sipush 1000, 3) := by decide +kernel
theorem dX7_law_5 : decode cX7_law 5 = .ok (.invokestatic 70, 3) := by decide +kernel
theorem dX7_law_8 : decode cX7_law 8 = .ok (.ifCond .eq 12, 3) := by decide +kernel
theorem dX7_law_11 : decode cX7_law 11 = .ok (.iload_n 2, 1) := by decide +kernel
theorem dX7_law_12 : decode cX7_law 12 = .ok (.iconst 0, 1) := by decide +kernel
theorem dX7_law_13 : decode cX7_law 13 = .ok (.iload_n 1, 1) := by decide +kernel
theorem dX7_law_14 : decode cX7_law 14 = .ok (.invokestatic 70, 3) := by decide +kernel
theorem dX7_law_17 : decode cX7_law 17 = .ok (.ifCond .ne 6, 3) := by decide +kernel
theorem dX7_law_20 : decode cX7_law 20 = .ok (.bipush (-3), 2) := by decide +kernel
theorem dX7_law_22 : decode cX7_law 22 = .ok (.ireturn, 1) := by decide +kernel
theorem dX7_law_23 : decode cX7_law 23 = .ok (.aload_n 0, 1) := by decide +kernel
theorem dX7_law_24 : decode cX7_law 24 = .ok (.getfield 40, 3) := by decide +kernel
theorem dX7_law_27 : decode cX7_law 27 = .ok (.iload_n 1, 1) := by decide +kernel
theorem dX7_law_28 : decode cX7_law 28 = .ok (.putfield 134, 3) := by decide +kernel
theorem dX7_law_31 : decode cX7_law 31 = .ok (.aload_n 0, 1) := by decide +kernel
theorem dX7_law_32 : decode cX7_law 32 = .ok (.getfield 40, 3) := by decide +kernel
theorem dX7_law_35 : decode cX7_law 35 = .ok (.iload_n 2, 1) := by decide +kernel
theorem dX7_law_36 : decode cX7_law 36 = .ok (.putfield 137, 3) := by decide +kernel
theorem dX7_law_39 : decode cX7_law 39 = .ok (.iconst 1, 1) := by decide +kernel
theorem dX7_law_40 : decode cX7_law 40 = .ok (.ireturn, 1) := by decide +kernel
theorem dX7_down_0 : decode cX7_down 0 = .ok (.iload_n 1, 1) := by decide +kernel
theorem dX7_down_1 : decode cX7_down 1 = .ok (.iload_n 2, 1) := by decide +kernel
theorem dX7_down_2 : decode cX7_down 2 = .ok (.invokestatic 58, 3) := by decide +kernel
theorem dX7_down_5 : decode cX7_down 5 = .ok (.ifCond .eq 10, 3) := by decide +kernel
theorem dX7_down_8 : decode cX7_down 8 = .ok (.iload_n 3, 1) := by decide +kernel
theorem dX7_down_9 : decode cX7_down 9 = .ok (.invokestatic 112, 3) := by decide +kernel
theorem dX7_down_12 : decode cX7_down 12 = .ok (.ifCond .ne 6, 3) := by decide +kernel
theorem dX7_down_15 : decode cX7_down 15 = .ok (.bipush (-2), 2) := by decide +kernel
theorem dX7_down_17 : decode cX7_down 17 = .ok (.ireturn, 1) := by decide +kernel
theorem dX7_down_18 : decode cX7_down 18 = .ok (.iload_n 1, 1) := by decide +kernel
theorem dX7_down_19 : decode cX7_down 19 = .ok (.iload_n 2, 1) := by decide +kernel
theorem dX7_down_20 : decode cX7_down 20 = .ok (.invokestatic 62, 3) := by decide +kernel
theorem dX7_down_23 : decode cX7_down 23 = .ok (.istore 4, 2) := by decide +kernel
theorem dX7_down_25 : decode cX7_down 25 = .ok (.aload_n 0, 1) := by decide +kernel
theorem dX7_down_26 : decode cX7_down 26 = .ok (.getfield 12, 3) := by decide +kernel
theorem dX7_down_29 : decode cX7_down 29 = .ok (.iload 4, 2) := by decide +kernel
theorem dX7_down_31 : decode cX7_down 31 = .ok (.invokevirtual 81, 3) := by decide +kernel
theorem dX7_down_34 : decode cX7_down 34 = .ok (.ifCond .ne 6, 3) := by decide +kernel
theorem dX7_down_37 : decode cX7_down 37 = .ok (.bipush (-4), 2) := by decide +kernel
theorem dX7_down_39 : decode cX7_down 39 = .ok (.ireturn, 1) := by decide +kernel
theorem dX7_down_40 : decode cX7_down 40 = .ok (.aload_n 0, 1) := by decide +kernel
theorem dX7_down_41 : decode cX7_down 41 = .ok (.invokevirtual 140, 3) := by decide +kernel
theorem dX7_down_44 : decode cX7_down 44 = .ok (.aload_n 0, 1) := by decide +kernel
theorem dX7_down_45 : decode cX7_down 45 = .ok (.getfield 40, 3) := by decide +kernel
theorem dX7_down_48 : decode cX7_down 48 = .ok (.getfield 143, 3) := by decide +kernel
theorem dX7_down_51 : decode cX7_down 51 = .ok (.iload_n 3, 1) := by decide +kernel
theorem dX7_down_52 : decode cX7_down 52 = .ok (.laload, 1) := by decide +kernel
theorem dX7_down_53 : decode cX7_down 53 = .ok (.iload 4, 2) := by decide +kernel
theorem dX7_down_55 : decode cX7_down 55 = .ok (.invokestatic 147, 3) := by decide +kernel
theorem dX7_down_58 : decode cX7_down 58 = .ok (.ifCond .eq 7, 3) := by decide +kernel
theorem dX7_down_61 : decode cX7_down 61 = .ok (.iconst 1, 1) := by decide +kernel
theorem dX7_down_62 : decode cX7_down 62 = .ok (.goto 4, 3) := by decide +kernel
theorem dX7_down_65 : decode cX7_down 65 = .ok (.iconst 0, 1) := by decide +kernel
theorem dX7_down_66 : decode cX7_down 66 = .ok (.ireturn, 1) := by decide +kernel
theorem dX7_light_0 : decode cX7_light 0 = .ok (.aload_n 0, 1) := by decide +kernel
theorem dX7_light_1 : decode cX7_light 1 = .ok (.getfield 19, 3) := by decide +kernel
theorem dX7_light_4 : decode cX7_light 4 = .ok (.iload_n 1, 1) := by decide +kernel
theorem dX7_light_5 : decode cX7_light 5 = .ok (.invokevirtual 92, 3) := by decide +kernel
theorem dX7_light_8 : decode cX7_light 8 = .ok (.ifCond .eq 10, 3) := by decide +kernel
theorem dX7_light_11 : decode cX7_light 11 = .ok (.iload_n 2, 1) := by decide +kernel
theorem dX7_light_12 : decode cX7_light 12 = .ok (.invokestatic 112, 3) := by decide +kernel
theorem dX7_light_15 : decode cX7_light 15 = .ok (.ifCond .ne 6, 3) := by decide +kernel
theorem dX7_light_18 : decode cX7_light 18 = .ok (.bipush (-2), 2) := by decide +kernel
theorem dX7_light_20 : decode cX7_light 20 = .ok (.ireturn, 1) := by decide +kernel
theorem dX7_light_21 : decode cX7_light 21 = .ok (.iload_n 3, 1) := by decide +kernel
theorem dX7_light_22 : decode cX7_light 22 = .ok (.invokestatic 151, 3) := by decide +kernel
theorem dX7_light_25 : decode cX7_light 25 = .ok (.ifCond .ne 6, 3) := by decide +kernel
theorem dX7_light_28 : decode cX7_light 28 = .ok (.bipush (-3), 2) := by decide +kernel
theorem dX7_light_30 : decode cX7_light 30 = .ok (.ireturn, 1) := by decide +kernel
theorem dX7_light_31 : decode cX7_light 31 = .ok (.aload_n 0, 1) := by decide +kernel
theorem dX7_light_32 : decode cX7_light 32 = .ok (.invokevirtual 140, 3) := by decide +kernel
theorem dX7_light_35 : decode cX7_light 35 = .ok (.aload_n 0, 1) := by decide +kernel
theorem dX7_light_36 : decode cX7_light 36 = .ok (.iload_n 1, 1) := by decide +kernel
theorem dX7_light_37 : decode cX7_light 37 = .ok (.iload_n 2, 1) := by decide +kernel
theorem dX7_light_38 : decode cX7_light 38 = .ok (.iload_n 3, 1) := by decide +kernel
theorem dX7_light_39 : decode cX7_light 39 = .ok (.invokevirtual 154, 3) := by decide +kernel
theorem dX7_light_42 : decode cX7_light 42 = .ok (.ireturn, 1) := by decide +kernel
theorem dX7_enough_0 : decode cX7_enough 0 = .ok (.aload_n 0, 1) := by decide +kernel
theorem dX7_enough_1 : decode cX7_enough 1 = .ok (.getfield 19, 3) := by decide +kernel
theorem dX7_enough_4 : decode cX7_enough 4 = .ok (.iload_n 1, 1) := by decide +kernel
theorem dX7_enough_5 : decode cX7_enough 5 = .ok (.invokevirtual 92, 3) := by decide +kernel
theorem dX7_enough_8 : decode cX7_enough 8 = .ok (.ifCond .ne 6, 3) := by decide +kernel
theorem dX7_enough_11 : decode cX7_enough 11 = .ok (.bipush (-2), 2) := by decide +kernel
theorem dX7_enough_13 : decode cX7_enough 13 = .ok (.ireturn, 1) := by decide +kernel
theorem dX7_enough_14 : decode cX7_enough 14 = .ok (.iload_n 2, 1) := by decide +kernel
theorem dX7_enough_15 : decode cX7_enough 15 = .ok (.invokestatic 151, 3) := by decide +kernel
theorem dX7_enough_18 : decode cX7_enough 18 = .ok (.ifCond .ne 6, 3) := by decide +kernel
theorem dX7_enough_21 : decode cX7_enough 21 = .ok (.bipush (-3), 2) := by decide +kernel
theorem dX7_enough_23 : decode cX7_enough 23 = .ok (.ireturn, 1) := by decide +kernel
theorem dX7_enough_24 : decode cX7_enough 24 = .ok (.aload_n 0, 1) := by decide +kernel
theorem dX7_enough_25 : decode cX7_enough 25 = .ok (.invokevirtual 140, 3) := by decide +kernel
theorem dX7_enough_28 : decode cX7_enough 28 = .ok (.aload_n 0, 1) := by decide +kernel
theorem dX7_enough_29 : decode cX7_enough 29 = .ok (.iload_n 1, 1) := by decide +kernel
theorem dX7_enough_30 : decode cX7_enough 30 = .ok (.iload_n 1, 1) := by decide +kernel
theorem dX7_enough_31 : decode cX7_enough 31 = .ok (.iconst 1, 1) := by decide +kernel
theorem dX7_enough_32 : decode cX7_enough 32 = .ok (.iadd, 1) := by decide +kernel
theorem dX7_enough_33 : decode cX7_enough 33 = .ok (.iload_n 2, 1) := by decide +kernel
theorem dX7_enough_34 : decode cX7_enough 34 = .ok (.invokevirtual 158, 3) := by decide +kernel
theorem dX7_enough_37 : decode cX7_enough 37 = .ok (.ireturn, 1) := by decide +kernel
theorem dX7_offer_0 : decode cX7_offer 0 = .ok (.iload_n 1, 1) := by decide +kernel
theorem dX7_offer_1 : decode cX7_offer 1 = .ok (.iload_n 2, 1) := by decide +kernel
theorem dX7_offer_2 : decode cX7_offer 2 = .ok (.invokestatic 58, 3) := by decide +kernel
theorem dX7_offer_5 : decode cX7_offer 5 = .ok (.ifCond .ne 6, 3) := by decide +kernel
theorem dX7_offer_8 : decode cX7_offer 8 = .ok (.bipush (-2), 2) := by decide +kernel
theorem dX7_offer_10 : decode cX7_offer 10 = .ok (.ireturn, 1) := by decide +kernel
theorem dX7_offer_11 : decode cX7_offer 11 = .ok (.iload_n 3, 1) := by decide +kernel
theorem dX7_offer_12 : decode cX7_offer 12 = .ok (.iconst 1, 1) := by decide +kernel
theorem dX7_offer_13 : decode cX7_offer 13 = .ok (.bipush 8, 2) := by decide +kernel
theorem dX7_offer_15 : decode cX7_offer 15 = .ok (.invokestatic 70, 3) := by decide +kernel
theorem dX7_offer_18 : decode cX7_offer 18 = .ok (.ifCond .eq 15, 3) := by decide +kernel
theorem dX7_offer_21 : decode cX7_offer 21 = .ok (.iload 4, 2) := by decide +kernel
theorem dX7_offer_23 : decode cX7_offer 23 = .ok (.iconst 0, 1) := by decide +kernel
theorem dX7_offer_24 : decode cX7_offer 24 = .ok (.sipush 1000, 3) := by decide +kernel
theorem dX7_offer_27 : decode cX7_offer 27 = .ok (.invokestatic 70, 3) := by decide +kernel
theorem dX7_offer_30 : decode cX7_offer 30 = .ok (.ifCond .ne 6, 3) := by decide +kernel
theorem dX7_offer_33 : decode cX7_offer 33 = .ok (.bipush (-3), 2) := by decide +kernel
theorem dX7_offer_35 : decode cX7_offer 35 = .ok (.ireturn, 1) := by decide +kernel
theorem dX7_offer_36 : decode cX7_offer 36 = .ok (.aload_n 0, 1) := by decide +kernel
theorem dX7_offer_37 : decode cX7_offer 37 = .ok (.getfield 47, 3) := by decide +kernel
theorem dX7_offer_40 : decode cX7_offer 40 = .ok (.getfield 161, 3) := by decide +kernel
theorem dX7_offer_43 : decode cX7_offer 43 = .ok (.iconst 5, 1) := by decide +kernel
theorem dX7_offer_44 : decode cX7_offer 44 = .ok (.if_icmp .lt 6, 3) := by decide +kernel
theorem dX7_offer_47 : decode cX7_offer 47 = .ok (.bipush (-5), 2) := by decide +kernel
theorem dX7_offer_49 : decode cX7_offer 49 = .ok (.ireturn, 1) := by decide +kernel
theorem dX7_offer_50 : decode cX7_offer 50 = .ok (.aload_n 0, 1) := by decide +kernel
theorem dX7_offer_51 : decode cX7_offer 51 = .ok (.getfield 47, 3) := by decide +kernel
theorem dX7_offer_54 : decode cX7_offer 54 = .ok (.iload_n 1, 1) := by decide +kernel
theorem dX7_offer_55 : decode cX7_offer 55 = .ok (.iload_n 2, 1) := by decide +kernel
theorem dX7_offer_56 : decode cX7_offer 56 = .ok (.invokestatic 62, 3) := by decide +kernel
theorem dX7_offer_59 : decode cX7_offer 59 = .ok (.iload_n 3, 1) := by decide +kernel
theorem dX7_offer_60 : decode cX7_offer 60 = .ok (.iload 4, 2) := by decide +kernel
theorem dX7_offer_62 : decode cX7_offer 62 = .ok (.invokevirtual 162, 3) := by decide +kernel
theorem dX7_offer_65 : decode cX7_offer 65 = .ok (.ireturn, 1) := by decide +kernel
theorem dX7_best_0 : decode cX7_best 0 = .ok (.iload_n 1, 1) := by decide +kernel
theorem dX7_best_1 : decode cX7_best 1 = .ok (.iconst 0, 1) := by decide +kernel
theorem dX7_best_2 : decode cX7_best 2 = .ok (.sipush 5000, 3) := by decide +kernel
theorem dX7_best_5 : decode cX7_best 5 = .ok (.invokestatic 70, 3) := by decide +kernel
theorem dX7_best_8 : decode cX7_best 8 = .ok (.ifCond .eq 12, 3) := by decide +kernel
theorem dX7_best_11 : decode cX7_best 11 = .ok (.iload_n 2, 1) := by decide +kernel
theorem dX7_best_12 : decode cX7_best 12 = .ok (.iconst 0, 1) := by decide +kernel
theorem dX7_best_13 : decode cX7_best 13 = .ok (.iconst 2, 1) := by decide +kernel
theorem dX7_best_14 : decode cX7_best 14 = .ok (.invokestatic 70, 3) := by decide +kernel
theorem dX7_best_17 : decode cX7_best 17 = .ok (.ifCond .ne 6, 3) := by decide +kernel
theorem dX7_best_20 : decode cX7_best 20 = .ok (.bipush (-3), 2) := by decide +kernel
theorem dX7_best_22 : decode cX7_best 22 = .ok (.ireturn, 1) := by decide +kernel
theorem dX7_best_23 : decode cX7_best 23 = .ok (.aload_n 0, 1) := by decide +kernel
theorem dX7_best_24 : decode cX7_best 24 = .ok (.iload_n 1, 1) := by decide +kernel
theorem dX7_best_25 : decode cX7_best 25 = .ok (.invokevirtual 165, 3) := by decide +kernel
theorem dX7_best_28 : decode cX7_best 28 = .ok (.iload_n 2, 1) := by decide +kernel
theorem dX7_best_29 : decode cX7_best 29 = .ok (.ifCond .ne 11, 3) := by decide +kernel
theorem dX7_best_32 : decode cX7_best 32 = .ok (.aload_n 0, 1) := by decide +kernel
theorem dX7_best_33 : decode cX7_best 33 = .ok (.getfield 54, 3) := by decide +kernel
theorem dX7_best_36 : decode cX7_best 36 = .ok (.getfield 169, 3) := by decide +kernel
theorem dX7_best_39 : decode cX7_best 39 = .ok (.ireturn, 1) := by decide +kernel
theorem dX7_best_40 : decode cX7_best 40 = .ok (.iload_n 2, 1) := by decide +kernel
theorem dX7_best_41 : decode cX7_best 41 = .ok (.iconst 1, 1) := by decide +kernel
theorem dX7_best_42 : decode cX7_best 42 = .ok (.if_icmp .ne 13, 3) := by decide +kernel
theorem dX7_best_45 : decode cX7_best 45 = .ok (.aload_n 0, 1) := by decide +kernel
theorem dX7_best_46 : decode cX7_best 46 = .ok (.getfield 54, 3) := by decide +kernel
theorem dX7_best_49 : decode cX7_best 49 = .ok (.getfield 172, 3) := by decide +kernel
theorem dX7_best_52 : decode cX7_best 52 = .ok (.goto 10, 3) := by decide +kernel
theorem dX7_best_55 : decode cX7_best 55 = .ok (.aload_n 0, 1) := by decide +kernel
theorem dX7_best_56 : decode cX7_best 56 = .ok (.getfield 54, 3) := by decide +kernel
theorem dX7_best_59 : decode cX7_best 59 = .ok (.getfield 175, 3) := by decide +kernel
theorem dX7_best_62 : decode cX7_best 62 = .ok (.ireturn, 1) := by decide +kernel
theorem dX7_make_0 : decode cX7_make 0 = .ok (.iload_n 1, 1) := by decide +kernel
theorem dX7_make_1 : decode cX7_make 1 = .ok (.iconst 0, 1) := by decide +kernel
theorem dX7_make_2 : decode cX7_make 2 = .ok (.sipush 5000, 3) := by decide +kernel
theorem dX7_make_5 : decode cX7_make 5 = .ok (.invokestatic 70, 3) := by decide +kernel
theorem dX7_make_8 : decode cX7_make 8 = .ok (.ifCond .ne 6, 3) := by decide +kernel
theorem dX7_make_11 : decode cX7_make 11 = .ok (.bipush (-3), 2) := by decide +kernel
theorem dX7_make_13 : decode cX7_make 13 = .ok (.ireturn, 1) := by decide +kernel
theorem dX7_make_14 : decode cX7_make 14 = .ok (.aload_n 0, 1) := by decide +kernel
theorem dX7_make_15 : decode cX7_make 15 = .ok (.iload_n 1, 1) := by decide +kernel
theorem dX7_make_16 : decode cX7_make 16 = .ok (.invokevirtual 165, 3) := by decide +kernel
theorem dX7_make_19 : decode cX7_make 19 = .ok (.aload_n 0, 1) := by decide +kernel
theorem dX7_make_20 : decode cX7_make 20 = .ok (.getfield 47, 3) := by decide +kernel
theorem dX7_make_23 : decode cX7_make 23 = .ok (.aload_n 0, 1) := by decide +kernel
theorem dX7_make_24 : decode cX7_make 24 = .ok (.getfield 12, 3) := by decide +kernel
theorem dX7_make_27 : decode cX7_make 27 = .ok (.aload_n 0, 1) := by decide +kernel
theorem dX7_make_28 : decode cX7_make 28 = .ok (.getfield 54, 3) := by decide +kernel
theorem dX7_make_31 : decode cX7_make 31 = .ok (.getfield 169, 3) := by decide +kernel
theorem dX7_make_34 : decode cX7_make 34 = .ok (.invokevirtual 178, 3) := by decide +kernel
theorem dX7_make_37 : decode cX7_make 37 = .ok (.aload_n 0, 1) := by decide +kernel
theorem dX7_make_38 : decode cX7_make 38 = .ok (.getfield 47, 3) := by decide +kernel
theorem dX7_make_41 : decode cX7_make 41 = .ok (.iconst 0, 1) := by decide +kernel
theorem dX7_make_42 : decode cX7_make 42 = .ok (.putfield 161, 3) := by decide +kernel
theorem dX7_make_45 : decode cX7_make 45 = .ok (.aload_n 0, 1) := by decide +kernel
theorem dX7_make_46 : decode cX7_make 46 = .ok (.getfield 54, 3) := by decide +kernel
theorem dX7_make_49 : decode cX7_make 49 = .ok (.getfield 169, 3) := by decide +kernel
theorem dX7_make_52 : decode cX7_make 52 = .ok (.ireturn, 1) := by decide +kernel
theorem dX7_keep_0 : decode cX7_keep 0 = .ok (.aload_n 0, 1) := by decide +kernel
theorem dX7_keep_1 : decode cX7_keep 1 = .ok (.getfield 33, 3) := by decide +kernel
theorem dX7_keep_4 : decode cX7_keep 4 = .ok (.aload_n 0, 1) := by decide +kernel
theorem dX7_keep_5 : decode cX7_keep 5 = .ok (.getfield 12, 3) := by decide +kernel
theorem dX7_keep_8 : decode cX7_keep 8 = .ok (.aload_n 0, 1) := by decide +kernel
theorem dX7_keep_9 : decode cX7_keep 9 = .ok (.getfield 19, 3) := by decide +kernel
theorem dX7_keep_12 : decode cX7_keep 12 = .ok (.invokevirtual 98, 3) := by decide +kernel
theorem dX7_keep_15 : decode cX7_keep 15 = .ok (.iconst 0, 1) := by decide +kernel
theorem dX7_keep_16 : decode cX7_keep 16 = .ok (.istore_n 1, 1) := by decide +kernel
theorem dX7_keep_17 : decode cX7_keep 17 = .ok (.iload_n 1, 1) := by decide +kernel
theorem dX7_keep_18 : decode cX7_keep 18 = .ok (.aload_n 0, 1) := by decide +kernel
theorem dX7_keep_19 : decode cX7_keep 19 = .ok (.getfield 19, 3) := by decide +kernel
theorem dX7_keep_22 : decode cX7_keep 22 = .ok (.getfield 85, 3) := by decide +kernel
theorem dX7_keep_25 : decode cX7_keep 25 = .ok (.if_icmp .ge 26, 3) := by decide +kernel
theorem dX7_keep_28 : decode cX7_keep 28 = .ok (.aload_n 0, 1) := by decide +kernel
theorem dX7_keep_29 : decode cX7_keep 29 = .ok (.getfield 19, 3) := by decide +kernel
theorem dX7_keep_32 : decode cX7_keep 32 = .ok (.getfield 182, 3) := by decide +kernel
theorem dX7_keep_35 : decode cX7_keep 35 = .ok (.iload_n 1, 1) := by decide +kernel
theorem dX7_keep_36 : decode cX7_keep 36 = .ok (.aload_n 0, 1) := by decide +kernel
theorem dX7_keep_37 : decode cX7_keep 37 = .ok (.getfield 33, 3) := by decide +kernel
theorem dX7_keep_40 : decode cX7_keep 40 = .ok (.iload_n 1, 1) := by decide +kernel
theorem dX7_keep_41 : decode cX7_keep 41 = .ok (.invokevirtual 108, 3) := by decide +kernel
theorem dX7_keep_44 : decode cX7_keep 44 = .ok (.iastore, 1) := by decide +kernel
theorem dX7_keep_45 : decode cX7_keep 45 = .ok (.iinc 1 1, 3) := by decide +kernel
theorem dX7_keep_48 : decode cX7_keep 48 = .ok (.goto (-31), 3) := by decide +kernel
theorem dX7_keep_51 : decode cX7_keep 51 = .ok (.aload_n 0, 1) := by decide +kernel
theorem dX7_keep_52 : decode cX7_keep 52 = .ok (.getfield 19, 3) := by decide +kernel
theorem dX7_keep_55 : decode cX7_keep 55 = .ok (.aload_n 0, 1) := by decide +kernel
theorem dX7_keep_56 : decode cX7_keep 56 = .ok (.getfield 19, 3) := by decide +kernel
theorem dX7_keep_59 : decode cX7_keep 59 = .ok (.getfield 85, 3) := by decide +kernel
theorem dX7_keep_62 : decode cX7_keep 62 = .ok (.putfield 185, 3) := by decide +kernel
theorem dX7_keep_65 : decode cX7_keep 65 = .ok (.aload_n 0, 1) := by decide +kernel
theorem dX7_keep_66 : decode cX7_keep 66 = .ok (.getfield 19, 3) := by decide +kernel
theorem dX7_keep_69 : decode cX7_keep 69 = .ok (.getfield 185, 3) := by decide +kernel
theorem dX7_keep_72 : decode cX7_keep 72 = .ok (.ireturn, 1) := by decide +kernel
theorem dX7_loss_0 : decode cX7_loss 0 = .ok (.aload_n 0, 1) := by decide +kernel
theorem dX7_loss_1 : decode cX7_loss 1 = .ok (.getfield 19, 3) := by decide +kernel
theorem dX7_loss_4 : decode cX7_loss 4 = .ok (.iload_n 1, 1) := by decide +kernel
theorem dX7_loss_5 : decode cX7_loss 5 = .ok (.invokevirtual 92, 3) := by decide +kernel
theorem dX7_loss_8 : decode cX7_loss 8 = .ok (.ifCond .eq 14, 3) := by decide +kernel
theorem dX7_loss_11 : decode cX7_loss 11 = .ok (.iload_n 1, 1) := by decide +kernel
theorem dX7_loss_12 : decode cX7_loss 12 = .ok (.aload_n 0, 1) := by decide +kernel
theorem dX7_loss_13 : decode cX7_loss 13 = .ok (.getfield 19, 3) := by decide +kernel
theorem dX7_loss_16 : decode cX7_loss 16 = .ok (.getfield 185, 3) := by decide +kernel
theorem dX7_loss_19 : decode cX7_loss 19 = .ok (.if_icmp .lt 6, 3) := by decide +kernel
theorem dX7_loss_22 : decode cX7_loss 22 = .ok (.ldc 188, 2) := by decide +kernel
theorem dX7_loss_24 : decode cX7_loss 24 = .ok (.ireturn, 1) := by decide +kernel
theorem dX7_loss_25 : decode cX7_loss 25 = .ok (.aload_n 0, 1) := by decide +kernel
theorem dX7_loss_26 : decode cX7_loss 26 = .ok (.getfield 33, 3) := by decide +kernel
theorem dX7_loss_29 : decode cX7_loss 29 = .ok (.aload_n 0, 1) := by decide +kernel
theorem dX7_loss_30 : decode cX7_loss 30 = .ok (.getfield 12, 3) := by decide +kernel
theorem dX7_loss_33 : decode cX7_loss 33 = .ok (.aload_n 0, 1) := by decide +kernel
theorem dX7_loss_34 : decode cX7_loss 34 = .ok (.getfield 19, 3) := by decide +kernel
theorem dX7_loss_37 : decode cX7_loss 37 = .ok (.invokevirtual 98, 3) := by decide +kernel
theorem dX7_loss_40 : decode cX7_loss 40 = .ok (.aload_n 0, 1) := by decide +kernel
theorem dX7_loss_41 : decode cX7_loss 41 = .ok (.getfield 19, 3) := by decide +kernel
theorem dX7_loss_44 : decode cX7_loss 44 = .ok (.getfield 182, 3) := by decide +kernel
theorem dX7_loss_47 : decode cX7_loss 47 = .ok (.iload_n 1, 1) := by decide +kernel
theorem dX7_loss_48 : decode cX7_loss 48 = .ok (.iaload, 1) := by decide +kernel
theorem dX7_loss_49 : decode cX7_loss 49 = .ok (.aload_n 0, 1) := by decide +kernel
theorem dX7_loss_50 : decode cX7_loss 50 = .ok (.getfield 33, 3) := by decide +kernel
theorem dX7_loss_53 : decode cX7_loss 53 = .ok (.iload_n 1, 1) := by decide +kernel
theorem dX7_loss_54 : decode cX7_loss 54 = .ok (.invokevirtual 108, 3) := by decide +kernel
theorem dX7_loss_57 : decode cX7_loss 57 = .ok (.isub, 1) := by decide +kernel
theorem dX7_loss_58 : decode cX7_loss 58 = .ok (.ireturn, 1) := by decide +kernel
theorem dX7_count_0 : decode cX7_count 0 = .ok (.iload_n 1, 1) := by decide +kernel
theorem dX7_count_1 : decode cX7_count 1 = .ok (.tableswitch 77 0 4 #[35, 43, 51, 59, 68], 35) := by decide +kernel
theorem dX7_count_36 : decode cX7_count 36 = .ok (.aload_n 0, 1) := by decide +kernel
theorem dX7_count_37 : decode cX7_count 37 = .ok (.getfield 19, 3) := by decide +kernel
theorem dX7_count_40 : decode cX7_count 40 = .ok (.getfield 85, 3) := by decide +kernel
theorem dX7_count_43 : decode cX7_count 43 = .ok (.ireturn, 1) := by decide +kernel
theorem dX7_count_44 : decode cX7_count 44 = .ok (.aload_n 0, 1) := by decide +kernel
theorem dX7_count_45 : decode cX7_count 45 = .ok (.getfield 47, 3) := by decide +kernel
theorem dX7_count_48 : decode cX7_count 48 = .ok (.getfield 161, 3) := by decide +kernel
theorem dX7_count_51 : decode cX7_count 51 = .ok (.ireturn, 1) := by decide +kernel
theorem dX7_count_52 : decode cX7_count 52 = .ok (.aload_n 0, 1) := by decide +kernel
theorem dX7_count_53 : decode cX7_count 53 = .ok (.getfield 26, 3) := by decide +kernel
theorem dX7_count_56 : decode cX7_count 56 = .ok (.invokevirtual 189, 3) := by decide +kernel
theorem dX7_count_59 : decode cX7_count 59 = .ok (.ireturn, 1) := by decide +kernel
theorem dX7_count_60 : decode cX7_count 60 = .ok (.aload_n 0, 1) := by decide +kernel
theorem dX7_count_61 : decode cX7_count 61 = .ok (.getfield 12, 3) := by decide +kernel
theorem dX7_count_64 : decode cX7_count 64 = .ok (.iconst 1, 1) := by decide +kernel
theorem dX7_count_65 : decode cX7_count 65 = .ok (.invokevirtual 193, 3) := by decide +kernel
theorem dX7_count_68 : decode cX7_count 68 = .ok (.ireturn, 1) := by decide +kernel
theorem dX7_count_69 : decode cX7_count 69 = .ok (.aload_n 0, 1) := by decide +kernel
theorem dX7_count_70 : decode cX7_count 70 = .ok (.getfield 12, 3) := by decide +kernel
theorem dX7_count_73 : decode cX7_count 73 = .ok (.iconst 2, 1) := by decide +kernel
theorem dX7_count_74 : decode cX7_count 74 = .ok (.invokevirtual 193, 3) := by decide +kernel
theorem dX7_count_77 : decode cX7_count 77 = .ok (.ireturn, 1) := by decide +kernel
theorem dX7_count_78 : decode cX7_count 78 = .ok (.bipush (-3), 2) := by decide +kernel
theorem dX7_count_80 : decode cX7_count 80 = .ok (.ireturn, 1) := by decide +kernel
theorem dX7_isWithin_0 : decode cX7_isWithin 0 = .ok (.iload_n 0, 1) := by decide +kernel
theorem dX7_isWithin_1 : decode cX7_isWithin 1 = .ok (.iload_n 1, 1) := by decide +kernel
theorem dX7_isWithin_2 : decode cX7_isWithin 2 = .ok (.if_icmp .lt 12, 3) := by decide +kernel
theorem dX7_isWithin_5 : decode cX7_isWithin 5 = .ok (.iload_n 0, 1) := by decide +kernel
theorem dX7_isWithin_6 : decode cX7_isWithin 6 = .ok (.iload_n 2, 1) := by decide +kernel
theorem dX7_isWithin_7 : decode cX7_isWithin 7 = .ok (.if_icmp .gt 7, 3) := by decide +kernel
theorem dX7_isWithin_10 : decode cX7_isWithin 10 = .ok (.iconst 1, 1) := by decide +kernel
theorem dX7_isWithin_11 : decode cX7_isWithin 11 = .ok (.goto 4, 3) := by decide +kernel
theorem dX7_isWithin_14 : decode cX7_isWithin 14 = .ok (.iconst 0, 1) := by decide +kernel
theorem dX7_isWithin_15 : decode cX7_isWithin 15 = .ok (.ireturn, 1) := by decide +kernel
theorem dX7_isCell_0 : decode cX7_isCell 0 = .ok (.iload_n 0, 1) := by decide +kernel
theorem dX7_isCell_1 : decode cX7_isCell 1 = .ok (.ifCond .lt 23, 3) := by decide +kernel
theorem dX7_isCell_4 : decode cX7_isCell 4 = .ok (.iload_n 0, 1) := by decide +kernel
theorem dX7_isCell_5 : decode cX7_isCell 5 = .ok (.bipush 8, 2) := by decide +kernel
theorem dX7_isCell_7 : decode cX7_isCell 7 = .ok (.if_icmp .ge 17, 3) := by decide +kernel
theorem dX7_isCell_10 : decode cX7_isCell 10 = .ok (.iload_n 1, 1) := by decide +kernel
theorem dX7_isCell_11 : decode cX7_isCell 11 = .ok (.ifCond .lt 13, 3) := by decide +kernel
theorem dX7_isCell_14 : decode cX7_isCell 14 = .ok (.iload_n 1, 1) := by decide +kernel
theorem dX7_isCell_15 : decode cX7_isCell 15 = .ok (.bipush 8, 2) := by decide +kernel
theorem dX7_isCell_17 : decode cX7_isCell 17 = .ok (.if_icmp .ge 7, 3) := by decide +kernel
theorem dX7_isCell_20 : decode cX7_isCell 20 = .ok (.iconst 1, 1) := by decide +kernel
theorem dX7_isCell_21 : decode cX7_isCell 21 = .ok (.goto 4, 3) := by decide +kernel
theorem dX7_isCell_24 : decode cX7_isCell 24 = .ok (.iconst 0, 1) := by decide +kernel
theorem dX7_isCell_25 : decode cX7_isCell 25 = .ok (.ireturn, 1) := by decide +kernel
theorem dX7_isPatch_0 : decode cX7_isPatch 0 = .ok (.iload_n 0, 1) := by decide +kernel
theorem dX7_isPatch_1 : decode cX7_isPatch 1 = .ok (.ifCond .lt 13, 3) := by decide +kernel
theorem dX7_isPatch_4 : decode cX7_isPatch 4 = .ok (.iload_n 0, 1) := by decide +kernel
theorem dX7_isPatch_5 : decode cX7_isPatch 5 = .ok (.bipush 16, 2) := by decide +kernel
theorem dX7_isPatch_7 : decode cX7_isPatch 7 = .ok (.if_icmp .ge 7, 3) := by decide +kernel
theorem dX7_isPatch_10 : decode cX7_isPatch 10 = .ok (.iconst 1, 1) := by decide +kernel
theorem dX7_isPatch_11 : decode cX7_isPatch 11 = .ok (.goto 4, 3) := by decide +kernel
theorem dX7_isPatch_14 : decode cX7_isPatch 14 = .ok (.iconst 0, 1) := by decide +kernel
theorem dX7_isPatch_15 : decode cX7_isPatch 15 = .ok (.ireturn, 1) := by decide +kernel
theorem dX7_isHour_0 : decode cX7_isHour 0 = .ok (.iload_n 0, 1) := by decide +kernel
theorem dX7_isHour_1 : decode cX7_isHour 1 = .ok (.ifCond .lt 13, 3) := by decide +kernel
theorem dX7_isHour_4 : decode cX7_isHour 4 = .ok (.iload_n 0, 1) := by decide +kernel
theorem dX7_isHour_5 : decode cX7_isHour 5 = .ok (.bipush 12, 2) := by decide +kernel
theorem dX7_isHour_7 : decode cX7_isHour 7 = .ok (.if_icmp .ge 7, 3) := by decide +kernel
theorem dX7_isHour_10 : decode cX7_isHour 10 = .ok (.iconst 1, 1) := by decide +kernel
theorem dX7_isHour_11 : decode cX7_isHour 11 = .ok (.goto 4, 3) := by decide +kernel
theorem dX7_isHour_14 : decode cX7_isHour 14 = .ok (.iconst 0, 1) := by decide +kernel
theorem dX7_isHour_15 : decode cX7_isHour 15 = .ok (.ireturn, 1) := by decide +kernel
theorem dX7_isEnd_0 : decode cX7_isEnd 0 = .ok (.iload_n 0, 1) := by decide +kernel
theorem dX7_isEnd_1 : decode cX7_isEnd 1 = .ok (.ifCond .eq 8, 3) := by decide +kernel
theorem dX7_isEnd_4 : decode cX7_isEnd 4 = .ok (.iload_n 0, 1) := by decide +kernel
theorem dX7_isEnd_5 : decode cX7_isEnd 5 = .ok (.iconst 1, 1) := by decide +kernel
theorem dX7_isEnd_6 : decode cX7_isEnd 6 = .ok (.if_icmp .ne 7, 3) := by decide +kernel
theorem dX7_isEnd_9 : decode cX7_isEnd 9 = .ok (.iconst 1, 1) := by decide +kernel
theorem dX7_isEnd_10 : decode cX7_isEnd 10 = .ok (.goto 4, 3) := by decide +kernel
theorem dX7_isEnd_13 : decode cX7_isEnd 13 = .ok (.iconst 0, 1) := by decide +kernel
theorem dX7_isEnd_14 : decode cX7_isEnd 14 = .ok (.ireturn, 1) := by decide +kernel
theorem dX7_cellNumber_0 : decode cX7_cellNumber 0 = .ok (.iload_n 1, 1) := by decide +kernel
theorem dX7_cellNumber_1 : decode cX7_cellNumber 1 = .ok (.bipush 8, 2) := by decide +kernel
theorem dX7_cellNumber_3 : decode cX7_cellNumber 3 = .ok (.imul, 1) := by decide +kernel
theorem dX7_cellNumber_4 : decode cX7_cellNumber 4 = .ok (.iload_n 0, 1) := by decide +kernel
theorem dX7_cellNumber_5 : decode cX7_cellNumber 5 = .ok (.iadd, 1) := by decide +kernel
theorem dX7_cellNumber_6 : decode cX7_cellNumber 6 = .ok (.ireturn, 1) := by decide +kernel
theorem dX7_rayNumber_0 : decode cX7_rayNumber 0 = .ok (.iload_n 0, 1) := by decide +kernel
theorem dX7_rayNumber_1 : decode cX7_rayNumber 1 = .ok (.bipush 16, 2) := by decide +kernel
theorem dX7_rayNumber_3 : decode cX7_rayNumber 3 = .ok (.imul, 1) := by decide +kernel
theorem dX7_rayNumber_4 : decode cX7_rayNumber 4 = .ok (.iload_n 1, 1) := by decide +kernel
theorem dX7_rayNumber_5 : decode cX7_rayNumber 5 = .ok (.iadd, 1) := by decide +kernel
theorem dX7_rayNumber_6 : decode cX7_rayNumber 6 = .ok (.ireturn, 1) := by decide +kernel
theorem dX7_hasBit_0 : decode cX7_hasBit 0 = .ok (.lload_n 0, 1) := by decide +kernel
theorem dX7_hasBit_1 : decode cX7_hasBit 1 = .ok (.iload_n 2, 1) := by decide +kernel
theorem dX7_hasBit_2 : decode cX7_hasBit 2 = .ok (.lushr, 1) := by decide +kernel
theorem dX7_hasBit_3 : decode cX7_hasBit 3 = .ok (.lconst 1, 1) := by decide +kernel
theorem dX7_hasBit_4 : decode cX7_hasBit 4 = .ok (.land, 1) := by decide +kernel
theorem dX7_hasBit_5 : decode cX7_hasBit 5 = .ok (.lconst 1, 1) := by decide +kernel
theorem dX7_hasBit_6 : decode cX7_hasBit 6 = .ok (.lcmp, 1) := by decide +kernel
theorem dX7_hasBit_7 : decode cX7_hasBit 7 = .ok (.ifCond .ne 7, 3) := by decide +kernel
theorem dX7_hasBit_10 : decode cX7_hasBit 10 = .ok (.iconst 1, 1) := by decide +kernel
theorem dX7_hasBit_11 : decode cX7_hasBit 11 = .ok (.goto 4, 3) := by decide +kernel
theorem dX7_hasBit_14 : decode cX7_hasBit 14 = .ok (.iconst 0, 1) := by decide +kernel
theorem dX7_hasBit_15 : decode cX7_hasBit 15 = .ok (.ireturn, 1) := by decide +kernel
theorem dX7_look_0 : decode cX7_look 0 = .ok (.aload_n 0, 1) := by decide +kernel
theorem dX7_look_1 : decode cX7_look 1 = .ok (.getfield 33, 3) := by decide +kernel
theorem dX7_look_4 : decode cX7_look 4 = .ok (.aload_n 0, 1) := by decide +kernel
theorem dX7_look_5 : decode cX7_look 5 = .ok (.getfield 12, 3) := by decide +kernel
theorem dX7_look_8 : decode cX7_look 8 = .ok (.aload_n 0, 1) := by decide +kernel
theorem dX7_look_9 : decode cX7_look 9 = .ok (.getfield 19, 3) := by decide +kernel
theorem dX7_look_12 : decode cX7_look 12 = .ok (.invokevirtual 98, 3) := by decide +kernel
theorem dX7_look_15 : decode cX7_look 15 = .ok (.aload_n 0, 1) := by decide +kernel
theorem dX7_look_16 : decode cX7_look 16 = .ok (.getfield 40, 3) := by decide +kernel
theorem dX7_look_19 : decode cX7_look 19 = .ok (.aload_n 0, 1) := by decide +kernel
theorem dX7_look_20 : decode cX7_look 20 = .ok (.getfield 26, 3) := by decide +kernel
theorem dX7_look_23 : decode cX7_look 23 = .ok (.aload_n 0, 1) := by decide +kernel
theorem dX7_look_24 : decode cX7_look 24 = .ok (.getfield 33, 3) := by decide +kernel
theorem dX7_look_27 : decode cX7_look 27 = .ok (.aload_n 0, 1) := by decide +kernel
theorem dX7_look_28 : decode cX7_look 28 = .ok (.getfield 19, 3) := by decide +kernel
theorem dX7_look_31 : decode cX7_look 31 = .ok (.getfield 85, 3) := by decide +kernel
theorem dX7_look_34 : decode cX7_look 34 = .ok (.aload_n 0, 1) := by decide +kernel
theorem dX7_look_35 : decode cX7_look 35 = .ok (.getfield 12, 3) := by decide +kernel
theorem dX7_look_38 : decode cX7_look 38 = .ok (.getfield 196, 3) := by decide +kernel
theorem dX7_look_41 : decode cX7_look 41 = .ok (.invokevirtual 199, 3) := by decide +kernel
theorem dX7_look_44 : decode cX7_look 44 = .ok (.return_, 1) := by decide +kernel
theorem dX7_lightOf_0 : decode cX7_lightOf 0 = .ok (.aload_n 0, 1) := by decide +kernel
theorem dX7_lightOf_1 : decode cX7_lightOf 1 = .ok (.getfield 26, 3) := by decide +kernel
theorem dX7_lightOf_4 : decode cX7_lightOf 4 = .ok (.getfield 121, 3) := by decide +kernel
theorem dX7_lightOf_7 : decode cX7_lightOf 7 = .ok (.iload_n 2, 1) := by decide +kernel
theorem dX7_lightOf_8 : decode cX7_lightOf 8 = .ok (.baload, 1) := by decide +kernel
theorem dX7_lightOf_9 : decode cX7_lightOf 9 = .ok (.istore 4, 2) := by decide +kernel
theorem dX7_lightOf_11 : decode cX7_lightOf 11 = .ok (.iload 4, 2) := by decide +kernel
theorem dX7_lightOf_13 : decode cX7_lightOf 13 = .ok (.ifCond .eq 9, 3) := by decide +kernel
theorem dX7_lightOf_16 : decode cX7_lightOf 16 = .ok (.iload_n 3, 1) := by decide +kernel
theorem dX7_lightOf_17 : decode cX7_lightOf 17 = .ok (.ifCond .ne 5, 3) := by decide +kernel
theorem dX7_lightOf_20 : decode cX7_lightOf 20 = .ok (.iconst 0, 1) := by decide +kernel
theorem dX7_lightOf_21 : decode cX7_lightOf 21 = .ok (.ireturn, 1) := by decide +kernel
theorem dX7_lightOf_22 : decode cX7_lightOf 22 = .ok (.aload_n 0, 1) := by decide +kernel
theorem dX7_lightOf_23 : decode cX7_lightOf 23 = .ok (.getfield 40, 3) := by decide +kernel
theorem dX7_lightOf_26 : decode cX7_lightOf 26 = .ok (.getfield 143, 3) := by decide +kernel
theorem dX7_lightOf_29 : decode cX7_lightOf 29 = .ok (.iload_n 2, 1) := by decide +kernel
theorem dX7_lightOf_30 : decode cX7_lightOf 30 = .ok (.laload, 1) := by decide +kernel
theorem dX7_lightOf_31 : decode cX7_lightOf 31 = .ok (.lstore 5, 2) := by decide +kernel
theorem dX7_lightOf_33 : decode cX7_lightOf 33 = .ok (.iload 4, 2) := by decide +kernel
theorem dX7_lightOf_35 : decode cX7_lightOf 35 = .ok (.ifCond .eq 14, 3) := by decide +kernel
theorem dX7_lightOf_38 : decode cX7_lightOf 38 = .ok (.aload_n 0, 1) := by decide +kernel
theorem dX7_lightOf_39 : decode cX7_lightOf 39 = .ok (.getfield 26, 3) := by decide +kernel
theorem dX7_lightOf_42 : decode cX7_lightOf 42 = .ok (.getfield 128, 3) := by decide +kernel
theorem dX7_lightOf_45 : decode cX7_lightOf 45 = .ok (.i2l, 1) := by decide +kernel
theorem dX7_lightOf_46 : decode cX7_lightOf 46 = .ok (.goto 13, 3) := by decide +kernel
theorem dX7_lightOf_49 : decode cX7_lightOf 49 = .ok (.aload_n 0, 1) := by decide +kernel
theorem dX7_lightOf_50 : decode cX7_lightOf 50 = .ok (.getfield 26, 3) := by decide +kernel
theorem dX7_lightOf_53 : decode cX7_lightOf 53 = .ok (.getfield 115, 3) := by decide +kernel
theorem dX7_lightOf_56 : decode cX7_lightOf 56 = .ok (.iload_n 2, 1) := by decide +kernel
theorem dX7_lightOf_57 : decode cX7_lightOf 57 = .ok (.iaload, 1) := by decide +kernel
theorem dX7_lightOf_58 : decode cX7_lightOf 58 = .ok (.i2l, 1) := by decide +kernel
theorem dX7_lightOf_59 : decode cX7_lightOf 59 = .ok (.lstore 7, 2) := by decide +kernel
theorem dX7_lightOf_61 : decode cX7_lightOf 61 = .ok (.lload 7, 2) := by decide +kernel
theorem dX7_lightOf_63 : decode cX7_lightOf 63 = .ok (.aload_n 0, 1) := by decide +kernel
theorem dX7_lightOf_64 : decode cX7_lightOf 64 = .ok (.getfield 33, 3) := by decide +kernel
theorem dX7_lightOf_67 : decode cX7_lightOf 67 = .ok (.aload_n 0, 1) := by decide +kernel
theorem dX7_lightOf_68 : decode cX7_lightOf 68 = .ok (.getfield 12, 3) := by decide +kernel
theorem dX7_lightOf_71 : decode cX7_lightOf 71 = .ok (.aload_n 0, 1) := by decide +kernel
theorem dX7_lightOf_72 : decode cX7_lightOf 72 = .ok (.getfield 19, 3) := by decide +kernel
theorem dX7_lightOf_75 : decode cX7_lightOf 75 = .ok (.iload_n 1, 1) := by decide +kernel
theorem dX7_lightOf_76 : decode cX7_lightOf 76 = .ok (.lload 5, 2) := by decide +kernel
theorem dX7_lightOf_78 : decode cX7_lightOf 78 = .ok (.invokevirtual 203, 3) := by decide +kernel
theorem dX7_lightOf_81 : decode cX7_lightOf 81 = .ok (.lmul, 1) := by decide +kernel
theorem dX7_lightOf_82 : decode cX7_lightOf 82 = .ok (.lstore 9, 2) := by decide +kernel
theorem dX7_lightOf_84 : decode cX7_lightOf 84 = .ok (.aload_n 0, 1) := by decide +kernel
theorem dX7_lightOf_85 : decode cX7_lightOf 85 = .ok (.getfield 26, 3) := by decide +kernel
theorem dX7_lightOf_88 : decode cX7_lightOf 88 = .ok (.iload_n 2, 1) := by decide +kernel
theorem dX7_lightOf_89 : decode cX7_lightOf 89 = .ok (.invokevirtual 207, 3) := by decide +kernel
theorem dX7_lightOf_92 : decode cX7_lightOf 92 = .ok (.ifCond .eq 54, 3) := by decide +kernel
theorem dX7_lightOf_95 : decode cX7_lightOf 95 = .ok (.aload_n 0, 1) := by decide +kernel
theorem dX7_lightOf_96 : decode cX7_lightOf 96 = .ok (.getfield 33, 3) := by decide +kernel
theorem dX7_lightOf_99 : decode cX7_lightOf 99 = .ok (.aload_n 0, 1) := by decide +kernel
theorem dX7_lightOf_100 : decode cX7_lightOf 100 = .ok (.getfield 12, 3) := by decide +kernel
theorem dX7_lightOf_103 : decode cX7_lightOf 103 = .ok (.aload_n 0, 1) := by decide +kernel
theorem dX7_lightOf_104 : decode cX7_lightOf 104 = .ok (.getfield 19, 3) := by decide +kernel
theorem dX7_lightOf_107 : decode cX7_lightOf 107 = .ok (.iload_n 1, 1) := by decide +kernel
theorem dX7_lightOf_108 : decode cX7_lightOf 108 = .ok (.aload_n 0, 1) := by decide +kernel
theorem dX7_lightOf_109 : decode cX7_lightOf 109 = .ok (.getfield 26, 3) := by decide +kernel
theorem dX7_lightOf_112 : decode cX7_lightOf 112 = .ok (.getfield 125, 3) := by decide +kernel
theorem dX7_lightOf_115 : decode cX7_lightOf 115 = .ok (.iload_n 2, 1) := by decide +kernel
theorem dX7_lightOf_116 : decode cX7_lightOf 116 = .ok (.iaload, 1) := by decide +kernel
theorem dX7_lightOf_117 : decode cX7_lightOf 117 = .ok (.lload 5, 2) := by decide +kernel
theorem dX7_lightOf_119 : decode cX7_lightOf 119 = .ok (.invokevirtual 210, 3) := by decide +kernel
theorem dX7_lightOf_122 : decode cX7_lightOf 122 = .ok (.lstore 11, 2) := by decide +kernel
theorem dX7_lightOf_124 : decode cX7_lightOf 124 = .ok (.lload 9, 2) := by decide +kernel
theorem dX7_lightOf_126 : decode cX7_lightOf 126 = .ok (.aload_n 0, 1) := by decide +kernel
theorem dX7_lightOf_127 : decode cX7_lightOf 127 = .ok (.getfield 26, 3) := by decide +kernel
theorem dX7_lightOf_130 : decode cX7_lightOf 130 = .ok (.getfield 118, 3) := by decide +kernel
theorem dX7_lightOf_133 : decode cX7_lightOf 133 = .ok (.iload_n 2, 1) := by decide +kernel
theorem dX7_lightOf_134 : decode cX7_lightOf 134 = .ok (.iaload, 1) := by decide +kernel
theorem dX7_lightOf_135 : decode cX7_lightOf 135 = .ok (.i2l, 1) := by decide +kernel
theorem dX7_lightOf_136 : decode cX7_lightOf 136 = .ok (.ldc2_w 214, 3) := by decide +kernel
theorem dX7_lightOf_139 : decode cX7_lightOf 139 = .ok (.lmul, 1) := by decide +kernel
theorem dX7_lightOf_140 : decode cX7_lightOf 140 = .ok (.lload 11, 2) := by decide +kernel
theorem dX7_lightOf_142 : decode cX7_lightOf 142 = .ok (.lmul, 1) := by decide +kernel
theorem dX7_lightOf_143 : decode cX7_lightOf 143 = .ok (.ladd, 1) := by decide +kernel
theorem dX7_lightOf_144 : decode cX7_lightOf 144 = .ok (.lstore 9, 2) := by decide +kernel
theorem dX7_lightOf_146 : decode cX7_lightOf 146 = .ok (.lload 9, 2) := by decide +kernel
theorem dX7_lightOf_148 : decode cX7_lightOf 148 = .ok (.ldc2_w 216, 3) := by decide +kernel
theorem dX7_lightOf_151 : decode cX7_lightOf 151 = .ok (.ldiv, 1) := by decide +kernel
theorem dX7_lightOf_152 : decode cX7_lightOf 152 = .ok (.l2i, 1) := by decide +kernel
theorem dX7_lightOf_153 : decode cX7_lightOf 153 = .ok (.ireturn, 1) := by decide +kernel
theorem dX7_enoughOf_0 : decode cX7_enoughOf 0 = .ok (.iconst 0, 1) := by decide +kernel
theorem dX7_enoughOf_1 : decode cX7_enoughOf 1 = .ok (.istore 4, 2) := by decide +kernel
theorem dX7_enoughOf_3 : decode cX7_enoughOf 3 = .ok (.iload_n 1, 1) := by decide +kernel
theorem dX7_enoughOf_4 : decode cX7_enoughOf 4 = .ok (.istore 5, 2) := by decide +kernel
theorem dX7_enoughOf_6 : decode cX7_enoughOf 6 = .ok (.iload 5, 2) := by decide +kernel
theorem dX7_enoughOf_8 : decode cX7_enoughOf 8 = .ok (.iload_n 2, 1) := by decide +kernel
theorem dX7_enoughOf_9 : decode cX7_enoughOf 9 = .ok (.if_icmp .ge 47, 3) := by decide +kernel
theorem dX7_enoughOf_12 : decode cX7_enoughOf 12 = .ok (.iconst 0, 1) := by decide +kernel
theorem dX7_enoughOf_13 : decode cX7_enoughOf 13 = .ok (.istore 6, 2) := by decide +kernel
theorem dX7_enoughOf_15 : decode cX7_enoughOf 15 = .ok (.iload 6, 2) := by decide +kernel
theorem dX7_enoughOf_17 : decode cX7_enoughOf 17 = .ok (.bipush 12, 2) := by decide +kernel
theorem dX7_enoughOf_19 : decode cX7_enoughOf 19 = .ok (.if_icmp .ge 31, 3) := by decide +kernel
theorem dX7_enoughOf_22 : decode cX7_enoughOf 22 = .ok (.aload_n 0, 1) := by decide +kernel
theorem dX7_enoughOf_23 : decode cX7_enoughOf 23 = .ok (.iload 5, 2) := by decide +kernel
theorem dX7_enoughOf_25 : decode cX7_enoughOf 25 = .ok (.iload 6, 2) := by decide +kernel
theorem dX7_enoughOf_27 : decode cX7_enoughOf 27 = .ok (.iload_n 3, 1) := by decide +kernel
theorem dX7_enoughOf_28 : decode cX7_enoughOf 28 = .ok (.invokevirtual 154, 3) := by decide +kernel
theorem dX7_enoughOf_31 : decode cX7_enoughOf 31 = .ok (.aload_n 0, 1) := by decide +kernel
theorem dX7_enoughOf_32 : decode cX7_enoughOf 32 = .ok (.getfield 26, 3) := by decide +kernel
theorem dX7_enoughOf_35 : decode cX7_enoughOf 35 = .ok (.getfield 131, 3) := by decide +kernel
theorem dX7_enoughOf_38 : decode cX7_enoughOf 38 = .ok (.if_icmp .lt 6, 3) := by decide +kernel
theorem dX7_enoughOf_41 : decode cX7_enoughOf 41 = .ok (.iinc 4 1, 3) := by decide +kernel
theorem dX7_enoughOf_44 : decode cX7_enoughOf 44 = .ok (.iinc 6 1, 3) := by decide +kernel
theorem dX7_enoughOf_47 : decode cX7_enoughOf 47 = .ok (.goto (-32), 3) := by decide +kernel
theorem dX7_enoughOf_50 : decode cX7_enoughOf 50 = .ok (.iinc 5 1, 3) := by decide +kernel
theorem dX7_enoughOf_53 : decode cX7_enoughOf 53 = .ok (.goto (-47), 3) := by decide +kernel
theorem dX7_enoughOf_56 : decode cX7_enoughOf 56 = .ok (.iload 4, 2) := by decide +kernel
theorem dX7_enoughOf_58 : decode cX7_enoughOf 58 = .ok (.ireturn, 1) := by decide +kernel
theorem dX7_search_0 : decode cX7_search 0 = .ok (.aload_n 0, 1) := by decide +kernel
theorem dX7_search_1 : decode cX7_search 1 = .ok (.getfield 54, 3) := by decide +kernel
theorem dX7_search_4 : decode cX7_search 4 = .ok (.invokevirtual 218, 3) := by decide +kernel
theorem dX7_search_7 : decode cX7_search 7 = .ok (.iconst 1, 1) := by decide +kernel
theorem dX7_search_8 : decode cX7_search 8 = .ok (.aload_n 0, 1) := by decide +kernel
theorem dX7_search_9 : decode cX7_search 9 = .ok (.getfield 47, 3) := by decide +kernel
theorem dX7_search_12 : decode cX7_search 12 = .ok (.getfield 161, 3) := by decide +kernel
theorem dX7_search_15 : decode cX7_search 15 = .ok (.ishl, 1) := by decide +kernel
theorem dX7_search_16 : decode cX7_search 16 = .ok (.istore_n 2, 1) := by decide +kernel
theorem dX7_search_17 : decode cX7_search 17 = .ok (.iconst 0, 1) := by decide +kernel
theorem dX7_search_18 : decode cX7_search 18 = .ok (.istore_n 3, 1) := by decide +kernel
theorem dX7_search_19 : decode cX7_search 19 = .ok (.iload_n 3, 1) := by decide +kernel
theorem dX7_search_20 : decode cX7_search 20 = .ok (.iload_n 2, 1) := by decide +kernel
theorem dX7_search_21 : decode cX7_search 21 = .ok (.if_icmp .ge 91, 3) := by decide +kernel
theorem dX7_search_24 : decode cX7_search 24 = .ok (.aload_n 0, 1) := by decide +kernel
theorem dX7_search_25 : decode cX7_search 25 = .ok (.getfield 47, 3) := by decide +kernel
theorem dX7_search_28 : decode cX7_search 28 = .ok (.iload_n 3, 1) := by decide +kernel
theorem dX7_search_29 : decode cX7_search 29 = .ok (.invokevirtual 221, 3) := by decide +kernel
theorem dX7_search_32 : decode cX7_search 32 = .ok (.istore 4, 2) := by decide +kernel
theorem dX7_search_34 : decode cX7_search 34 = .ok (.iload 4, 2) := by decide +kernel
theorem dX7_search_36 : decode cX7_search 36 = .ok (.iload_n 1, 1) := by decide +kernel
theorem dX7_search_37 : decode cX7_search 37 = .ok (.if_icmp .gt 69, 3) := by decide +kernel
theorem dX7_search_40 : decode cX7_search 40 = .ok (.aload_n 0, 1) := by decide +kernel
theorem dX7_search_41 : decode cX7_search 41 = .ok (.getfield 47, 3) := by decide +kernel
theorem dX7_search_44 : decode cX7_search 44 = .ok (.aload_n 0, 1) := by decide +kernel
theorem dX7_search_45 : decode cX7_search 45 = .ok (.getfield 12, 3) := by decide +kernel
theorem dX7_search_48 : decode cX7_search 48 = .ok (.iload_n 3, 1) := by decide +kernel
theorem dX7_search_49 : decode cX7_search 49 = .ok (.invokevirtual 224, 3) := by decide +kernel
theorem dX7_search_52 : decode cX7_search 52 = .ok (.ifCond .eq 54, 3) := by decide +kernel
theorem dX7_search_55 : decode cX7_search 55 = .ok (.aload_n 0, 1) := by decide +kernel
theorem dX7_search_56 : decode cX7_search 56 = .ok (.getfield 47, 3) := by decide +kernel
theorem dX7_search_59 : decode cX7_search 59 = .ok (.aload_n 0, 1) := by decide +kernel
theorem dX7_search_60 : decode cX7_search 60 = .ok (.getfield 12, 3) := by decide +kernel
theorem dX7_search_63 : decode cX7_search 63 = .ok (.iload_n 3, 1) := by decide +kernel
theorem dX7_search_64 : decode cX7_search 64 = .ok (.invokevirtual 178, 3) := by decide +kernel
theorem dX7_search_67 : decode cX7_search 67 = .ok (.aload_n 0, 1) := by decide +kernel
theorem dX7_search_68 : decode cX7_search 68 = .ok (.invokevirtual 140, 3) := by decide +kernel
theorem dX7_search_71 : decode cX7_search 71 = .ok (.aload_n 0, 1) := by decide +kernel
theorem dX7_search_72 : decode cX7_search 72 = .ok (.getfield 54, 3) := by decide +kernel
theorem dX7_search_75 : decode cX7_search 75 = .ok (.iload_n 3, 1) := by decide +kernel
theorem dX7_search_76 : decode cX7_search 76 = .ok (.iload 4, 2) := by decide +kernel
theorem dX7_search_78 : decode cX7_search 78 = .ok (.aload_n 0, 1) := by decide +kernel
theorem dX7_search_79 : decode cX7_search 79 = .ok (.iconst 0, 1) := by decide +kernel
theorem dX7_search_80 : decode cX7_search 80 = .ok (.aload_n 0, 1) := by decide +kernel
theorem dX7_search_81 : decode cX7_search 81 = .ok (.getfield 19, 3) := by decide +kernel
theorem dX7_search_84 : decode cX7_search 84 = .ok (.getfield 85, 3) := by decide +kernel
theorem dX7_search_87 : decode cX7_search 87 = .ok (.iconst 0, 1) := by decide +kernel
theorem dX7_search_88 : decode cX7_search 88 = .ok (.invokevirtual 158, 3) := by decide +kernel
theorem dX7_search_91 : decode cX7_search 91 = .ok (.invokevirtual 228, 3) := by decide +kernel
theorem dX7_search_94 : decode cX7_search 94 = .ok (.aload_n 0, 1) := by decide +kernel
theorem dX7_search_95 : decode cX7_search 95 = .ok (.getfield 47, 3) := by decide +kernel
theorem dX7_search_98 : decode cX7_search 98 = .ok (.aload_n 0, 1) := by decide +kernel
theorem dX7_search_99 : decode cX7_search 99 = .ok (.getfield 12, 3) := by decide +kernel
theorem dX7_search_102 : decode cX7_search 102 = .ok (.iload_n 3, 1) := by decide +kernel
theorem dX7_search_103 : decode cX7_search 103 = .ok (.invokevirtual 231, 3) := by decide +kernel
theorem dX7_search_106 : decode cX7_search 106 = .ok (.iinc 3 1, 3) := by decide +kernel
theorem dX7_search_109 : decode cX7_search 109 = .ok (.goto (-90), 3) := by decide +kernel
theorem dX7_search_112 : decode cX7_search 112 = .ok (.return_, 1) := by decide +kernel

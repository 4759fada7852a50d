theorem dX10_init_0 : decode cX10_init 0 = .ok (.aload_n 0, 1) := by decide +kernel
theorem dX10_init_1 : decode cX10_init 1 = .ok (.invokespecial 3, 3) := by decide +kernel
theorem dX10_init_4 : decode cX10_init 4 = .ok (.aload_n 0, 1) := by decide +kernel
theorem dX10_init_5 : decode cX10_init 5 = .ok (.new 9, 3) := by decide +kernel
theorem dX10_init_8 : decode cX10_init 8 = .ok (.dup, 1) := by decide +kernel
theorem dX10_init_9 : decode cX10_init 9 = .ok (.invokespecial 11, 3) := by decide +kernel
theorem dX10_init_12 : decode cX10_init 12 = .ok (.putfield 12, 3) := by decide +kernel
theorem dX10_init_15 : decode cX10_init 15 = .ok (.aload_n 0, 1) := by decide +kernel
theorem dX10_init_16 : decode cX10_init 16 = .ok (.aload_n 0, 1) := by decide +kernel
theorem dX10_init_17 : decode cX10_init 17 = .ok (.getfield 12, 3) := by decide +kernel
theorem dX10_init_20 : decode cX10_init 20 = .ok (.getfield 16, 3) := by decide +kernel
theorem dX10_init_23 : decode cX10_init 23 = .ok (.putfield 20, 3) := by decide +kernel
theorem dX10_init_26 : decode cX10_init 26 = .ok (.aload_n 0, 1) := by decide +kernel
theorem dX10_init_27 : decode cX10_init 27 = .ok (.aload_n 0, 1) := by decide +kernel
theorem dX10_init_28 : decode cX10_init 28 = .ok (.getfield 12, 3) := by decide +kernel
theorem dX10_init_31 : decode cX10_init 31 = .ok (.getfield 21, 3) := by decide +kernel
theorem dX10_init_34 : decode cX10_init 34 = .ok (.putfield 25, 3) := by decide +kernel
theorem dX10_init_37 : decode cX10_init 37 = .ok (.aload_n 0, 1) := by decide +kernel
theorem dX10_init_38 : decode cX10_init 38 = .ok (.aload_n 0, 1) := by decide +kernel
theorem dX10_init_39 : decode cX10_init 39 = .ok (.getfield 12, 3) := by decide +kernel
theorem dX10_init_42 : decode cX10_init 42 = .ok (.getfield 26, 3) := by decide +kernel
theorem dX10_init_45 : decode cX10_init 45 = .ok (.putfield 30, 3) := by decide +kernel
theorem dX10_init_48 : decode cX10_init 48 = .ok (.aload_n 0, 1) := by decide +kernel
theorem dX10_init_49 : decode cX10_init 49 = .ok (.new 31, 3) := by decide +kernel
theorem dX10_init_52 : decode cX10_init 52 = .ok (.dup, 1) := by decide +kernel
theorem dX10_init_53 : decode cX10_init 53 = .ok (.invokespecial 33, 3) := by decide +kernel
theorem dX10_init_56 : decode cX10_init 56 = .ok (.putfield 34, 3) := by decide +kernel
theorem dX10_init_59 : decode cX10_init 59 = .ok (.aload_n 0, 1) := by decide +kernel
theorem dX10_init_60 : decode cX10_init 60 = .ok (.new 38, 3) := by decide +kernel
theorem dX10_init_63 : decode cX10_init 63 = .ok (.dup, 1) := by decide +kernel
theorem dX10_init_64 : decode cX10_init 64 = .ok (.invokespecial 40, 3) := by decide +kernel
theorem dX10_init_67 : decode cX10_init 67 = .ok (.putfield 41, 3) := by decide +kernel
theorem dX10_init_70 : decode cX10_init 70 = .ok (.aload_n 0, 1) := by decide +kernel
theorem dX10_init_71 : decode cX10_init 71 = .ok (.new 45, 3) := by decide +kernel
theorem dX10_init_74 : decode cX10_init 74 = .ok (.dup, 1) := by decide +kernel
theorem dX10_init_75 : decode cX10_init 75 = .ok (.invokespecial 47, 3) := by decide +kernel
theorem dX10_init_78 : decode cX10_init 78 = .ok (.putfield 48, 3) := by decide +kernel
theorem dX10_init_81 : decode cX10_init 81 = .ok (.aload_n 0, 1) := by decide +kernel
theorem dX10_init_82 : decode cX10_init 82 = .ok (.new 52, 3) := by decide +kernel
theorem dX10_init_85 : decode cX10_init 85 = .ok (.dup, 1) := by decide +kernel
theorem dX10_init_86 : decode cX10_init 86 = .ok (.invokespecial 54, 3) := by decide +kernel
theorem dX10_init_89 : decode cX10_init 89 = .ok (.putfield 55, 3) := by decide +kernel
theorem dX10_init_92 : decode cX10_init 92 = .ok (.aload_n 0, 1) := by decide +kernel
theorem dX10_init_93 : decode cX10_init 93 = .ok (.iconst 1, 1) := by decide +kernel
theorem dX10_init_94 : decode cX10_init 94 = .ok (.putfield 59, 3) := by decide +kernel
theorem dX10_init_97 : decode cX10_init 97 = .ok (.aload_n 0, 1) := by decide +kernel
theorem dX10_init_98 : decode cX10_init 98 = .ok (.iconst 5, 1) := by decide +kernel
theorem dX10_init_99 : decode cX10_init 99 = .ok (.putfield 63, 3) := by decide +kernel
theorem dX10_init_102 : decode cX10_init 102 = .ok (.aload_n 0, 1) := by decide +kernel
theorem dX10_init_103 : decode cX10_init 103 = .ok (.iconst 0, 1) := by decide +kernel
theorem dX10_init_104 : decode cX10_init 104 = .ok (.putfield 66, 3) := by decide +kernel
theorem dX10_init_107 : decode cX10_init 107 = .ok (.return_, 1) := by decide +kernel
theorem dX10_sector_0 : decode cX10_sector 0 = .ok (.iload_n 1, 1) := by decide +kernel
theorem dX10_sector_1 : decode cX10_sector 1 = .ok (.invokestatic 69, 3) := by decide +kernel
theorem dX10_sector_4 : decode cX10_sector 4 = .ok (.ifCond .ne 6, 3) := by decide +kernel
theorem dX10_sector_7 : decode cX10_sector 7 = .ok (.bipush (-101), 2) := by decide +kernel
theorem dX10_sector_9 : decode cX10_sector 9 = .ok (.ireturn, 1) := by decide +kernel
theorem dX10_sector_10 : decode cX10_sector 10 = .ok (.iload_n 2, 1) := by decide +kernel
theorem dX10_sector_11 : decode cX10_sector 11 = .ok (.invokestatic 73, 3) := by decide +kernel
theorem dX10_sector_14 : decode cX10_sector 14 = .ok (.ifCond .ne 6, 3) := by decide +kernel
theorem dX10_sector_17 : decode cX10_sector 17 = .ok (.bipush (-102), 2) := by decide +kernel
theorem dX10_sector_19 : decode cX10_sector 19 = .ok (.ireturn, 1) := by decide +kernel
theorem dX10_sector_20 : decode cX10_sector 20 = .ok (.aload_n 0, 1) := by decide +kernel
theorem dX10_sector_21 : decode cX10_sector 21 = .ok (.getfield 20, 3) := by decide +kernel
theorem dX10_sector_24 : decode cX10_sector 24 = .ok (.getfield 76, 3) := by decide +kernel
theorem dX10_sector_27 : decode cX10_sector 27 = .ok (.iload_n 1, 1) := by decide +kernel
theorem dX10_sector_28 : decode cX10_sector 28 = .ok (.invokestatic 82, 3) := by decide +kernel
theorem dX10_sector_31 : decode cX10_sector 31 = .ok (.istore_n 3, 1) := by decide +kernel
theorem dX10_sector_32 : decode cX10_sector 32 = .ok (.aload_n 0, 1) := by decide +kernel
theorem dX10_sector_33 : decode cX10_sector 33 = .ok (.getfield 20, 3) := by decide +kernel
theorem dX10_sector_36 : decode cX10_sector 36 = .ok (.aload_n 0, 1) := by decide +kernel
theorem dX10_sector_37 : decode cX10_sector 37 = .ok (.getfield 20, 3) := by decide +kernel
theorem dX10_sector_40 : decode cX10_sector 40 = .ok (.getfield 76, 3) := by decide +kernel
theorem dX10_sector_43 : decode cX10_sector 43 = .ok (.iload_n 1, 1) := by decide +kernel
theorem dX10_sector_44 : decode cX10_sector 44 = .ok (.iload_n 2, 1) := by decide +kernel
theorem dX10_sector_45 : decode cX10_sector 45 = .ok (.invokestatic 86, 3) := by decide +kernel
theorem dX10_sector_48 : decode cX10_sector 48 = .ok (.putfield 76, 3) := by decide +kernel
theorem dX10_sector_51 : decode cX10_sector 51 = .ok (.aload_n 0, 1) := by decide +kernel
theorem dX10_sector_52 : decode cX10_sector 52 = .ok (.invokevirtual 90, 3) := by decide +kernel
theorem dX10_sector_55 : decode cX10_sector 55 = .ok (.iload_n 3, 1) := by decide +kernel
theorem dX10_sector_56 : decode cX10_sector 56 = .ok (.ireturn, 1) := by decide +kernel
theorem dX10_write_0 : decode cX10_write 0 = .ok (.iload_n 1, 1) := by decide +kernel
theorem dX10_write_1 : decode cX10_write 1 = .ok (.invokestatic 69, 3) := by decide +kernel
theorem dX10_write_4 : decode cX10_write 4 = .ok (.ifCond .ne 6, 3) := by decide +kernel
theorem dX10_write_7 : decode cX10_write 7 = .ok (.bipush (-101), 2) := by decide +kernel
theorem dX10_write_9 : decode cX10_write 9 = .ok (.ireturn, 1) := by decide +kernel
theorem dX10_write_10 : decode cX10_write 10 = .ok (.iload_n 2, 1) := by decide +kernel
theorem dX10_write_11 : decode cX10_write 11 = .ok (.invokestatic 73, 3) := by decide +kernel
theorem dX10_write_14 : decode cX10_write 14 = .ok (.ifCond .ne 6, 3) := by decide +kernel
theorem dX10_write_17 : decode cX10_write 17 = .ok (.bipush (-102), 2) := by decide +kernel
theorem dX10_write_19 : decode cX10_write 19 = .ok (.ireturn, 1) := by decide +kernel
theorem dX10_write_20 : decode cX10_write 20 = .ok (.aload_n 0, 1) := by decide +kernel
theorem dX10_write_21 : decode cX10_write 21 = .ok (.iconst 0, 1) := by decide +kernel
theorem dX10_write_22 : decode cX10_write 22 = .ok (.iload_n 1, 1) := by decide +kernel
theorem dX10_write_23 : decode cX10_write 23 = .ok (.iload_n 2, 1) := by decide +kernel
theorem dX10_write_24 : decode cX10_write 24 = .ok (.iconst (-1), 1) := by decide +kernel
theorem dX10_write_25 : decode cX10_write 25 = .ok (.iconst (-1), 1) := by decide +kernel
theorem dX10_write_26 : decode cX10_write 26 = .ok (.invokevirtual 93, 3) := by decide +kernel
theorem dX10_write_29 : decode cX10_write 29 = .ok (.ireturn, 1) := by decide +kernel
theorem dX10_whole_0 : decode cX10_whole 0 = .ok (.iload_n 1, 1) := by decide +kernel
theorem dX10_whole_1 : decode cX10_whole 1 = .ok (.invokestatic 69, 3) := by decide +kernel
theorem dX10_whole_4 : decode cX10_whole 4 = .ok (.ifCond .eq 15, 3) := by decide +kernel
theorem dX10_whole_7 : decode cX10_whole 7 = .ok (.iload_n 3, 1) := by decide +kernel
theorem dX10_whole_8 : decode cX10_whole 8 = .ok (.invokestatic 69, 3) := by decide +kernel
theorem dX10_whole_11 : decode cX10_whole 11 = .ok (.ifCond .eq 8, 3) := by decide +kernel
theorem dX10_whole_14 : decode cX10_whole 14 = .ok (.iload_n 1, 1) := by decide +kernel
theorem dX10_whole_15 : decode cX10_whole 15 = .ok (.iload_n 3, 1) := by decide +kernel
theorem dX10_whole_16 : decode cX10_whole 16 = .ok (.if_icmp .ne 6, 3) := by decide +kernel
theorem dX10_whole_19 : decode cX10_whole 19 = .ok (.bipush (-101), 2) := by decide +kernel
theorem dX10_whole_21 : decode cX10_whole 21 = .ok (.ireturn, 1) := by decide +kernel
theorem dX10_whole_22 : decode cX10_whole 22 = .ok (.iload_n 2, 1) := by decide +kernel
theorem dX10_whole_23 : decode cX10_whole 23 = .ok (.invokestatic 73, 3) := by decide +kernel
theorem dX10_whole_26 : decode cX10_whole 26 = .ok (.ifCond .eq 11, 3) := by decide +kernel
theorem dX10_whole_29 : decode cX10_whole 29 = .ok (.iload 4, 2) := by decide +kernel
theorem dX10_whole_31 : decode cX10_whole 31 = .ok (.invokestatic 73, 3) := by decide +kernel
theorem dX10_whole_34 : decode cX10_whole 34 = .ok (.ifCond .ne 6, 3) := by decide +kernel
theorem dX10_whole_37 : decode cX10_whole 37 = .ok (.bipush (-102), 2) := by decide +kernel
theorem dX10_whole_39 : decode cX10_whole 39 = .ok (.ireturn, 1) := by decide +kernel
theorem dX10_whole_40 : decode cX10_whole 40 = .ok (.aload_n 0, 1) := by decide +kernel
theorem dX10_whole_41 : decode cX10_whole 41 = .ok (.iconst 1, 1) := by decide +kernel
theorem dX10_whole_42 : decode cX10_whole 42 = .ok (.iload_n 1, 1) := by decide +kernel
theorem dX10_whole_43 : decode cX10_whole 43 = .ok (.iload_n 2, 1) := by decide +kernel
theorem dX10_whole_44 : decode cX10_whole 44 = .ok (.iload_n 3, 1) := by decide +kernel
theorem dX10_whole_45 : decode cX10_whole 45 = .ok (.iload 4, 2) := by decide +kernel
theorem dX10_whole_47 : decode cX10_whole 47 = .ok (.invokevirtual 93, 3) := by decide +kernel
theorem dX10_whole_50 : decode cX10_whole 50 = .ok (.ireturn, 1) := by decide +kernel
theorem dX10_barrier_0 : decode cX10_barrier 0 = .ok (.aload_n 0, 1) := by decide +kernel
theorem dX10_barrier_1 : decode cX10_barrier 1 = .ok (.iconst 2, 1) := by decide +kernel
theorem dX10_barrier_2 : decode cX10_barrier 2 = .ok (.iconst (-1), 1) := by decide +kernel
theorem dX10_barrier_3 : decode cX10_barrier 3 = .ok (.iconst (-1), 1) := by decide +kernel
theorem dX10_barrier_4 : decode cX10_barrier 4 = .ok (.iconst (-1), 1) := by decide +kernel
theorem dX10_barrier_5 : decode cX10_barrier 5 = .ok (.iconst (-1), 1) := by decide +kernel
theorem dX10_barrier_6 : decode cX10_barrier 6 = .ok (.invokevirtual 93, 3) := by decide +kernel
theorem dX10_barrier_9 : decode cX10_barrier 9 = .ok (.ireturn, 1) := by decide +kernel
theorem dX10_flush_0 : decode cX10_flush 0 = .ok (.aload_n 0, 1) := by decide +kernel
theorem dX10_flush_1 : decode cX10_flush 1 = .ok (.iconst 3, 1) := by decide +kernel
theorem dX10_flush_2 : decode cX10_flush 2 = .ok (.iconst (-1), 1) := by decide +kernel
theorem dX10_flush_3 : decode cX10_flush 3 = .ok (.iconst (-1), 1) := by decide +kernel
theorem dX10_flush_4 : decode cX10_flush 4 = .ok (.iconst (-1), 1) := by decide +kernel
theorem dX10_flush_5 : decode cX10_flush 5 = .ok (.iconst (-1), 1) := by decide +kernel
theorem dX10_flush_6 : decode cX10_flush 6 = .ok (.invokevirtual 93, 3) := by decide +kernel
theorem dX10_flush_9 : decode cX10_flush 9 = .ok (.ireturn, 1) := by decide +kernel
theorem dX10_tell_0 : decode cX10_tell 0 = .ok (.aload_n 0, 1) := by decide +kernel
theorem dX10_tell_1 : decode cX10_tell 1 = .ok (.getfield 25, 3) := by decide +kernel
theorem dX10_tell_4 : decode cX10_tell 4 = .ok (.iload_n 1, 1) := by decide +kernel
theorem dX10_tell_5 : decode cX10_tell 5 = .ok (.invokevirtual 97, 3) := by decide +kernel
theorem dX10_tell_8 : decode cX10_tell 8 = .ok (.ifCond .ne 6, 3) := by decide +kernel
theorem dX10_tell_11 : decode cX10_tell 11 = .ok (.bipush (-101), 2) := by decide +kernel
theorem dX10_tell_13 : decode cX10_tell 13 = .ok (.ireturn, 1) := by decide +kernel
theorem dX10_tell_14 : decode cX10_tell 14 = .ok (.aload_n 0, 1) := by decide +kernel
theorem dX10_tell_15 : decode cX10_tell 15 = .ok (.iconst 4, 1) := by decide +kernel
theorem dX10_tell_16 : decode cX10_tell 16 = .ok (.iload_n 1, 1) := by decide +kernel
theorem dX10_tell_17 : decode cX10_tell 17 = .ok (.iconst (-1), 1) := by decide +kernel
theorem dX10_tell_18 : decode cX10_tell 18 = .ok (.iconst (-1), 1) := by decide +kernel
theorem dX10_tell_19 : decode cX10_tell 19 = .ok (.iconst (-1), 1) := by decide +kernel
theorem dX10_tell_20 : decode cX10_tell 20 = .ok (.invokevirtual 93, 3) := by decide +kernel
theorem dX10_tell_23 : decode cX10_tell 23 = .ok (.ireturn, 1) := by decide +kernel
theorem dX10_undo_0 : decode cX10_undo 0 = .ok (.aload_n 0, 1) := by decide +kernel
theorem dX10_undo_1 : decode cX10_undo 1 = .ok (.getfield 20, 3) := by decide +kernel
theorem dX10_undo_4 : decode cX10_undo 4 = .ok (.getfield 102, 3) := by decide +kernel
theorem dX10_undo_7 : decode cX10_undo 7 = .ok (.ifCond .gt 6, 3) := by decide +kernel
theorem dX10_undo_10 : decode cX10_undo 10 = .ok (.bipush (-103), 2) := by decide +kernel
theorem dX10_undo_12 : decode cX10_undo 12 = .ok (.ireturn, 1) := by decide +kernel
theorem dX10_undo_13 : decode cX10_undo 13 = .ok (.aload_n 0, 1) := by decide +kernel
theorem dX10_undo_14 : decode cX10_undo 14 = .ok (.getfield 20, 3) := by decide +kernel
theorem dX10_undo_17 : decode cX10_undo 17 = .ok (.dup, 1) := by decide +kernel
theorem dX10_undo_18 : decode cX10_undo 18 = .ok (.getfield 102, 3) := by decide +kernel
theorem dX10_undo_21 : decode cX10_undo 21 = .ok (.iconst 1, 1) := by decide +kernel
theorem dX10_undo_22 : decode cX10_undo 22 = .ok (.isub, 1) := by decide +kernel
theorem dX10_undo_23 : decode cX10_undo 23 = .ok (.putfield 102, 3) := by decide +kernel
theorem dX10_undo_26 : decode cX10_undo 26 = .ok (.aload_n 0, 1) := by decide +kernel
theorem dX10_undo_27 : decode cX10_undo 27 = .ok (.invokevirtual 90, 3) := by decide +kernel
theorem dX10_undo_30 : decode cX10_undo 30 = .ok (.aload_n 0, 1) := by decide +kernel
theorem dX10_undo_31 : decode cX10_undo 31 = .ok (.getfield 20, 3) := by decide +kernel
theorem dX10_undo_34 : decode cX10_undo 34 = .ok (.getfield 102, 3) := by decide +kernel
theorem dX10_undo_37 : decode cX10_undo 37 = .ok (.ireturn, 1) := by decide +kernel
theorem dX10_swap_0 : decode cX10_swap 0 = .ok (.aload_n 0, 1) := by decide +kernel
theorem dX10_swap_1 : decode cX10_swap 1 = .ok (.getfield 20, 3) := by decide +kernel
theorem dX10_swap_4 : decode cX10_swap 4 = .ok (.iload_n 1, 1) := by decide +kernel
theorem dX10_swap_5 : decode cX10_swap 5 = .ok (.invokevirtual 105, 3) := by decide +kernel
theorem dX10_swap_8 : decode cX10_swap 8 = .ok (.ifCond .eq 14, 3) := by decide +kernel
theorem dX10_swap_11 : decode cX10_swap 11 = .ok (.aload_n 0, 1) := by decide +kernel
theorem dX10_swap_12 : decode cX10_swap 12 = .ok (.getfield 20, 3) := by decide +kernel
theorem dX10_swap_15 : decode cX10_swap 15 = .ok (.iload_n 2, 1) := by decide +kernel
theorem dX10_swap_16 : decode cX10_swap 16 = .ok (.invokevirtual 105, 3) := by decide +kernel
theorem dX10_swap_19 : decode cX10_swap 19 = .ok (.ifCond .ne 6, 3) := by decide +kernel
theorem dX10_swap_22 : decode cX10_swap 22 = .ok (.bipush (-101), 2) := by decide +kernel
theorem dX10_swap_24 : decode cX10_swap 24 = .ok (.ireturn, 1) := by decide +kernel
theorem dX10_swap_25 : decode cX10_swap 25 = .ok (.aload_n 0, 1) := by decide +kernel
theorem dX10_swap_26 : decode cX10_swap 26 = .ok (.getfield 20, 3) := by decide +kernel
theorem dX10_swap_29 : decode cX10_swap 29 = .ok (.iload_n 1, 1) := by decide +kernel
theorem dX10_swap_30 : decode cX10_swap 30 = .ok (.iload_n 2, 1) := by decide +kernel
theorem dX10_swap_31 : decode cX10_swap 31 = .ok (.invokevirtual 106, 3) := by decide +kernel
theorem dX10_swap_34 : decode cX10_swap 34 = .ok (.aload_n 0, 1) := by decide +kernel
theorem dX10_swap_35 : decode cX10_swap 35 = .ok (.invokevirtual 90, 3) := by decide +kernel
theorem dX10_swap_38 : decode cX10_swap 38 = .ok (.iconst 1, 1) := by decide +kernel
theorem dX10_swap_39 : decode cX10_swap 39 = .ok (.ireturn, 1) := by decide +kernel
theorem dX10_act_0 : decode cX10_act 0 = .ok (.aload_n 0, 1) := by decide +kernel
theorem dX10_act_1 : decode cX10_act 1 = .ok (.getfield 20, 3) := by decide +kernel
theorem dX10_act_4 : decode cX10_act 4 = .ok (.iload_n 1, 1) := by decide +kernel
theorem dX10_act_5 : decode cX10_act 5 = .ok (.invokevirtual 105, 3) := by decide +kernel
theorem dX10_act_8 : decode cX10_act 8 = .ok (.ifCond .ne 6, 3) := by decide +kernel
theorem dX10_act_11 : decode cX10_act 11 = .ok (.bipush (-101), 2) := by decide +kernel
theorem dX10_act_13 : decode cX10_act 13 = .ok (.ireturn, 1) := by decide +kernel
theorem dX10_act_14 : decode cX10_act 14 = .ok (.iload_n 2, 1) := by decide +kernel
theorem dX10_act_15 : decode cX10_act 15 = .ok (.ifCond .lt 8, 3) := by decide +kernel
theorem dX10_act_18 : decode cX10_act 18 = .ok (.iload_n 2, 1) := by decide +kernel
theorem dX10_act_19 : decode cX10_act 19 = .ok (.iconst 4, 1) := by decide +kernel
theorem dX10_act_20 : decode cX10_act 20 = .ok (.if_icmp .le 6, 3) := by decide +kernel
theorem dX10_act_23 : decode cX10_act 23 = .ok (.bipush (-102), 2) := by decide +kernel
theorem dX10_act_25 : decode cX10_act 25 = .ok (.ireturn, 1) := by decide +kernel
theorem dX10_act_26 : decode cX10_act 26 = .ok (.aload_n 0, 1) := by decide +kernel
theorem dX10_act_27 : decode cX10_act 27 = .ok (.getfield 20, 3) := by decide +kernel
theorem dX10_act_30 : decode cX10_act 30 = .ok (.getfield 110, 3) := by decide +kernel
theorem dX10_act_33 : decode cX10_act 33 = .ok (.iload_n 1, 1) := by decide +kernel
theorem dX10_act_34 : decode cX10_act 34 = .ok (.aaload, 1) := by decide +kernel
theorem dX10_act_35 : decode cX10_act 35 = .ok (.iload_n 2, 1) := by decide +kernel
theorem dX10_act_36 : decode cX10_act 36 = .ok (.invokevirtual 114, 3) := by decide +kernel
theorem dX10_act_39 : decode cX10_act 39 = .ok (.ireturn, 1) := by decide +kernel
theorem dX10_end_0 : decode cX10_end 0 = .ok (.aload_n 0, 1) := by decide +kernel
theorem dX10_end_1 : decode cX10_end 1 = .ok (.getfield 20, 3) := by decide +kernel
theorem dX10_end_4 : decode cX10_end 4 = .ok (.aload_n 0, 1) := by decide +kernel
theorem dX10_end_5 : decode cX10_end 5 = .ok (.getfield 20, 3) := by decide +kernel
theorem dX10_end_8 : decode cX10_end 8 = .ok (.invokevirtual 120, 3) := by decide +kernel
theorem dX10_end_11 : decode cX10_end 11 = .ok (.invokevirtual 124, 3) := by decide +kernel
theorem dX10_end_14 : decode cX10_end 14 = .ok (.invokestatic 128, 3) := by decide +kernel
theorem dX10_end_17 : decode cX10_end 17 = .ok (.lreturn, 1) := by decide +kernel
theorem dX10_addAct_0 : decode cX10_addAct 0 = .ok (.aload_n 0, 1) := by decide +kernel
theorem dX10_addAct_1 : decode cX10_addAct 1 = .ok (.getfield 20, 3) := by decide +kernel
theorem dX10_addAct_4 : decode cX10_addAct 4 = .ok (.getfield 102, 3) := by decide +kernel
theorem dX10_addAct_7 : decode cX10_addAct 7 = .ok (.bipush 12, 2) := by decide +kernel
theorem dX10_addAct_9 : decode cX10_addAct 9 = .ok (.if_icmp .lt 6, 3) := by decide +kernel
theorem dX10_addAct_12 : decode cX10_addAct 12 = .ok (.bipush (-104), 2) := by decide +kernel
theorem dX10_addAct_14 : decode cX10_addAct 14 = .ok (.ireturn, 1) := by decide +kernel
theorem dX10_addAct_15 : decode cX10_addAct 15 = .ok (.aload_n 0, 1) := by decide +kernel
theorem dX10_addAct_16 : decode cX10_addAct 16 = .ok (.getfield 20, 3) := by decide +kernel
theorem dX10_addAct_19 : decode cX10_addAct 19 = .ok (.getfield 110, 3) := by decide +kernel
theorem dX10_addAct_22 : decode cX10_addAct 22 = .ok (.aload_n 0, 1) := by decide +kernel
theorem dX10_addAct_23 : decode cX10_addAct 23 = .ok (.getfield 20, 3) := by decide +kernel
theorem dX10_addAct_26 : decode cX10_addAct 26 = .ok (.getfield 102, 3) := by decide +kernel
theorem dX10_addAct_29 : decode cX10_addAct 29 = .ok (.aaload, 1) := by decide +kernel
theorem dX10_addAct_30 : decode cX10_addAct 30 = .ok (.iload_n 1, 1) := by decide +kernel
theorem dX10_addAct_31 : decode cX10_addAct 31 = .ok (.iload_n 2, 1) := by decide +kernel
theorem dX10_addAct_32 : decode cX10_addAct 32 = .ok (.iload_n 3, 1) := by decide +kernel
theorem dX10_addAct_33 : decode cX10_addAct 33 = .ok (.iload 4, 2) := by decide +kernel
theorem dX10_addAct_35 : decode cX10_addAct 35 = .ok (.iload 5, 2) := by decide +kernel
theorem dX10_addAct_37 : decode cX10_addAct 37 = .ok (.invokevirtual 132, 3) := by decide +kernel
theorem dX10_addAct_40 : decode cX10_addAct 40 = .ok (.aload_n 0, 1) := by decide +kernel
theorem dX10_addAct_41 : decode cX10_addAct 41 = .ok (.getfield 20, 3) := by decide +kernel
theorem dX10_addAct_44 : decode cX10_addAct 44 = .ok (.dup, 1) := by decide +kernel
theorem dX10_addAct_45 : decode cX10_addAct 45 = .ok (.getfield 102, 3) := by decide +kernel
theorem dX10_addAct_48 : decode cX10_addAct 48 = .ok (.iconst 1, 1) := by decide +kernel
theorem dX10_addAct_49 : decode cX10_addAct 49 = .ok (.iadd, 1) := by decide +kernel
theorem dX10_addAct_50 : decode cX10_addAct 50 = .ok (.putfield 102, 3) := by decide +kernel
theorem dX10_addAct_53 : decode cX10_addAct 53 = .ok (.aload_n 0, 1) := by decide +kernel
theorem dX10_addAct_54 : decode cX10_addAct 54 = .ok (.invokevirtual 90, 3) := by decide +kernel
theorem dX10_addAct_57 : decode cX10_addAct 57 = .ok (.aload_n 0, 1) := by decide +kernel
theorem dX10_addAct_58 : decode cX10_addAct 58 = .ok (.getfield 20, 3) := by decide +kernel
theorem dX10_addAct_61 : decode cX10_addAct 61 = .ok (.getfield 102, 3) := by decide +kernel
theorem dX10_addAct_64 : decode cX10_addAct 64 = .ok (.iconst 1, 1) := by decide +kernel
theorem dX10_addAct_65 : decode cX10_addAct 65 = .ok (.isub, 1) := by decide +kernel
theorem dX10_addAct_66 : decode cX10_addAct 66 = .ok (.ireturn, 1) := by decide +kernel
theorem dX10_letters_0 : decode cX10_letters 0 = .ok (.lload_n 1, 1) := by decide +kernel
theorem dX10_letters_1 : decode cX10_letters 1 = .ok (.invokestatic 136, 3) := by decide +kernel
theorem dX10_letters_4 : decode cX10_letters 4 = .ok (.istore_n 3, 1) := by decide +kernel
theorem dX10_letters_5 : decode cX10_letters 5 = .ok (.iload_n 3, 1) := by decide +kernel
theorem dX10_letters_6 : decode cX10_letters 6 = .ok (.ifCond .ge 6, 3) := by decide +kernel
theorem dX10_letters_9 : decode cX10_letters 9 = .ok (.bipush (-102), 2) := by decide +kernel
theorem dX10_letters_11 : decode cX10_letters 11 = .ok (.ireturn, 1) := by decide +kernel
theorem dX10_letters_12 : decode cX10_letters 12 = .ok (.aload_n 0, 1) := by decide +kernel
theorem dX10_letters_13 : decode cX10_letters 13 = .ok (.getfield 34, 3) := by decide +kernel
theorem dX10_letters_16 : decode cX10_letters 16 = .ok (.getfield 140, 3) := by decide +kernel
theorem dX10_letters_19 : decode cX10_letters 19 = .ok (.iload_n 3, 1) := by decide +kernel
theorem dX10_letters_20 : decode cX10_letters 20 = .ok (.iadd, 1) := by decide +kernel
theorem dX10_letters_21 : decode cX10_letters 21 = .ok (.bipush 60, 2) := by decide +kernel
theorem dX10_letters_23 : decode cX10_letters 23 = .ok (.if_icmp .le 6, 3) := by decide +kernel
theorem dX10_letters_26 : decode cX10_letters 26 = .ok (.bipush (-104), 2) := by decide +kernel
theorem dX10_letters_28 : decode cX10_letters 28 = .ok (.ireturn, 1) := by decide +kernel
theorem dX10_letters_29 : decode cX10_letters 29 = .ok (.aload_n 0, 1) := by decide +kernel
theorem dX10_letters_30 : decode cX10_letters 30 = .ok (.getfield 34, 3) := by decide +kernel
theorem dX10_letters_33 : decode cX10_letters 33 = .ok (.lload_n 1, 1) := by decide +kernel
theorem dX10_letters_34 : decode cX10_letters 34 = .ok (.iload_n 3, 1) := by decide +kernel
theorem dX10_letters_35 : decode cX10_letters 35 = .ok (.invokevirtual 141, 3) := by decide +kernel
theorem dX10_letters_38 : decode cX10_letters 38 = .ok (.aload_n 0, 1) := by decide +kernel
theorem dX10_letters_39 : decode cX10_letters 39 = .ok (.getfield 34, 3) := by decide +kernel
theorem dX10_letters_42 : decode cX10_letters 42 = .ok (.getfield 140, 3) := by decide +kernel
theorem dX10_letters_45 : decode cX10_letters 45 = .ok (.ireturn, 1) := by decide +kernel
theorem dX10_blank_0 : decode cX10_blank 0 = .ok (.aload_n 0, 1) := by decide +kernel
theorem dX10_blank_1 : decode cX10_blank 1 = .ok (.getfield 34, 3) := by decide +kernel
theorem dX10_blank_4 : decode cX10_blank 4 = .ok (.getfield 140, 3) := by decide +kernel
theorem dX10_blank_7 : decode cX10_blank 7 = .ok (.istore_n 1, 1) := by decide +kernel
theorem dX10_blank_8 : decode cX10_blank 8 = .ok (.aload_n 0, 1) := by decide +kernel
theorem dX10_blank_9 : decode cX10_blank 9 = .ok (.getfield 34, 3) := by decide +kernel
theorem dX10_blank_12 : decode cX10_blank 12 = .ok (.iconst 0, 1) := by decide +kernel
theorem dX10_blank_13 : decode cX10_blank 13 = .ok (.putfield 140, 3) := by decide +kernel
theorem dX10_blank_16 : decode cX10_blank 16 = .ok (.iload_n 1, 1) := by decide +kernel
theorem dX10_blank_17 : decode cX10_blank 17 = .ok (.ireturn, 1) := by decide +kernel
theorem dX10_good_0 : decode cX10_good 0 = .ok (.iload_n 1, 1) := by decide +kernel
theorem dX10_good_1 : decode cX10_good 1 = .ok (.ifCond .eq 11, 3) := by decide +kernel
theorem dX10_good_4 : decode cX10_good 4 = .ok (.iload_n 1, 1) := by decide +kernel
theorem dX10_good_5 : decode cX10_good 5 = .ok (.iconst 1, 1) := by decide +kernel
theorem dX10_good_6 : decode cX10_good 6 = .ok (.if_icmp .eq 6, 3) := by decide +kernel
theorem dX10_good_9 : decode cX10_good 9 = .ok (.bipush (-102), 2) := by decide +kernel
theorem dX10_good_11 : decode cX10_good 11 = .ok (.ireturn, 1) := by decide +kernel
theorem dX10_good_12 : decode cX10_good 12 = .ok (.aload_n 0, 1) := by decide +kernel
theorem dX10_good_13 : decode cX10_good 13 = .ok (.getfield 41, 3) := by decide +kernel
theorem dX10_good_16 : decode cX10_good 16 = .ok (.aload_n 0, 1) := by decide +kernel
theorem dX10_good_17 : decode cX10_good 17 = .ok (.getfield 34, 3) := by decide +kernel
theorem dX10_good_20 : decode cX10_good 20 = .ok (.iload_n 1, 1) := by decide +kernel
theorem dX10_good_21 : decode cX10_good 21 = .ok (.iconst 1, 1) := by decide +kernel
theorem dX10_good_22 : decode cX10_good 22 = .ok (.if_icmp .ne 7, 3) := by decide +kernel
theorem dX10_good_25 : decode cX10_good 25 = .ok (.iconst 1, 1) := by decide +kernel
theorem dX10_good_26 : decode cX10_good 26 = .ok (.goto 4, 3) := by decide +kernel
theorem dX10_good_29 : decode cX10_good 29 = .ok (.iconst 0, 1) := by decide +kernel
theorem dX10_good_30 : decode cX10_good 30 = .ok (.invokevirtual 145, 3) := by decide +kernel
theorem dX10_good_33 : decode cX10_good 33 = .ok (.ireturn, 1) := by decide +kernel
theorem dX10_rule_0 : decode cX10_rule 0 = .ok (.aload_n 0, 1) := by decide +kernel
theorem dX10_rule_1 : decode cX10_rule 1 = .ok (.getfield 41, 3) := by decide +kernel
theorem dX10_rule_4 : decode cX10_rule 4 = .ok (.aload_n 0, 1) := by decide +kernel
theorem dX10_rule_5 : decode cX10_rule 5 = .ok (.getfield 34, 3) := by decide +kernel
theorem dX10_rule_8 : decode cX10_rule 8 = .ok (.iconst 0, 1) := by decide +kernel
theorem dX10_rule_9 : decode cX10_rule 9 = .ok (.invokevirtual 145, 3) := by decide +kernel
theorem dX10_rule_12 : decode cX10_rule 12 = .ok (.aload_n 0, 1) := by decide +kernel
theorem dX10_rule_13 : decode cX10_rule 13 = .ok (.getfield 34, 3) := by decide +kernel
theorem dX10_rule_16 : decode cX10_rule 16 = .ok (.getfield 140, 3) := by decide +kernel
theorem dX10_rule_19 : decode cX10_rule 19 = .ok (.if_icmp .lt 13, 3) := by decide +kernel
theorem dX10_rule_22 : decode cX10_rule 22 = .ok (.aload_n 0, 1) := by decide +kernel
theorem dX10_rule_23 : decode cX10_rule 23 = .ok (.getfield 41, 3) := by decide +kernel
theorem dX10_rule_26 : decode cX10_rule 26 = .ok (.invokevirtual 149, 3) := by decide +kernel
theorem dX10_rule_29 : decode cX10_rule 29 = .ok (.ifCond .ne 6, 3) := by decide +kernel
theorem dX10_rule_32 : decode cX10_rule 32 = .ok (.bipush (-103), 2) := by decide +kernel
theorem dX10_rule_34 : decode cX10_rule 34 = .ok (.ireturn, 1) := by decide +kernel
theorem dX10_rule_35 : decode cX10_rule 35 = .ok (.aload_n 0, 1) := by decide +kernel
theorem dX10_rule_36 : decode cX10_rule 36 = .ok (.getfield 25, 3) := by decide +kernel
theorem dX10_rule_39 : decode cX10_rule 39 = .ok (.getfield 153, 3) := by decide +kernel
theorem dX10_rule_42 : decode cX10_rule 42 = .ok (.bipush 6, 2) := by decide +kernel
theorem dX10_rule_44 : decode cX10_rule 44 = .ok (.if_icmp .lt 6, 3) := by decide +kernel
theorem dX10_rule_47 : decode cX10_rule 47 = .ok (.bipush (-104), 2) := by decide +kernel
theorem dX10_rule_49 : decode cX10_rule 49 = .ok (.ireturn, 1) := by decide +kernel
theorem dX10_rule_50 : decode cX10_rule 50 = .ok (.aload_n 0, 1) := by decide +kernel
theorem dX10_rule_51 : decode cX10_rule 51 = .ok (.getfield 25, 3) := by decide +kernel
theorem dX10_rule_54 : decode cX10_rule 54 = .ok (.getfield 154, 3) := by decide +kernel
theorem dX10_rule_57 : decode cX10_rule 57 = .ok (.aload_n 0, 1) := by decide +kernel
theorem dX10_rule_58 : decode cX10_rule 58 = .ok (.getfield 25, 3) := by decide +kernel
theorem dX10_rule_61 : decode cX10_rule 61 = .ok (.getfield 153, 3) := by decide +kernel
theorem dX10_rule_64 : decode cX10_rule 64 = .ok (.aaload, 1) := by decide +kernel
theorem dX10_rule_65 : decode cX10_rule 65 = .ok (.aload_n 0, 1) := by decide +kernel
theorem dX10_rule_66 : decode cX10_rule 66 = .ok (.getfield 41, 3) := by decide +kernel
theorem dX10_rule_69 : decode cX10_rule 69 = .ok (.getfield 158, 3) := by decide +kernel
theorem dX10_rule_72 : decode cX10_rule 72 = .ok (.invokevirtual 162, 3) := by decide +kernel
theorem dX10_rule_75 : decode cX10_rule 75 = .ok (.aload_n 0, 1) := by decide +kernel
theorem dX10_rule_76 : decode cX10_rule 76 = .ok (.getfield 25, 3) := by decide +kernel
theorem dX10_rule_79 : decode cX10_rule 79 = .ok (.dup, 1) := by decide +kernel
theorem dX10_rule_80 : decode cX10_rule 80 = .ok (.getfield 153, 3) := by decide +kernel
theorem dX10_rule_83 : decode cX10_rule 83 = .ok (.iconst 1, 1) := by decide +kernel
theorem dX10_rule_84 : decode cX10_rule 84 = .ok (.iadd, 1) := by decide +kernel
theorem dX10_rule_85 : decode cX10_rule 85 = .ok (.putfield 153, 3) := by decide +kernel
theorem dX10_rule_88 : decode cX10_rule 88 = .ok (.aload_n 0, 1) := by decide +kernel
theorem dX10_rule_89 : decode cX10_rule 89 = .ok (.getfield 34, 3) := by decide +kernel
theorem dX10_rule_92 : decode cX10_rule 92 = .ok (.iconst 0, 1) := by decide +kernel
theorem dX10_rule_93 : decode cX10_rule 93 = .ok (.putfield 140, 3) := by decide +kernel
theorem dX10_rule_96 : decode cX10_rule 96 = .ok (.aload_n 0, 1) := by decide +kernel
theorem dX10_rule_97 : decode cX10_rule 97 = .ok (.getfield 12, 3) := by decide +kernel
theorem dX10_rule_100 : decode cX10_rule 100 = .ok (.invokevirtual 168, 3) := by decide +kernel
theorem dX10_rule_103 : decode cX10_rule 103 = .ok (.aload_n 0, 1) := by decide +kernel
theorem dX10_rule_104 : decode cX10_rule 104 = .ok (.getfield 25, 3) := by decide +kernel
theorem dX10_rule_107 : decode cX10_rule 107 = .ok (.getfield 153, 3) := by decide +kernel
theorem dX10_rule_110 : decode cX10_rule 110 = .ok (.iconst 1, 1) := by decide +kernel
theorem dX10_rule_111 : decode cX10_rule 111 = .ok (.isub, 1) := by decide +kernel
theorem dX10_rule_112 : decode cX10_rule 112 = .ok (.ireturn, 1) := by decide +kernel
theorem dX10_step_0 : decode cX10_step 0 = .ok (.aload_n 0, 1) := by decide +kernel
theorem dX10_step_1 : decode cX10_step 1 = .ok (.getfield 41, 3) := by decide +kernel
theorem dX10_step_4 : decode cX10_step 4 = .ok (.aload_n 0, 1) := by decide +kernel
theorem dX10_step_5 : decode cX10_step 5 = .ok (.getfield 34, 3) := by decide +kernel
theorem dX10_step_8 : decode cX10_step 8 = .ok (.iconst 1, 1) := by decide +kernel
theorem dX10_step_9 : decode cX10_step 9 = .ok (.invokevirtual 145, 3) := by decide +kernel
theorem dX10_step_12 : decode cX10_step 12 = .ok (.aload_n 0, 1) := by decide +kernel
theorem dX10_step_13 : decode cX10_step 13 = .ok (.getfield 34, 3) := by decide +kernel
theorem dX10_step_16 : decode cX10_step 16 = .ok (.getfield 140, 3) := by decide +kernel
theorem dX10_step_19 : decode cX10_step 19 = .ok (.if_icmp .lt 13, 3) := by decide +kernel
theorem dX10_step_22 : decode cX10_step 22 = .ok (.aload_n 0, 1) := by decide +kernel
theorem dX10_step_23 : decode cX10_step 23 = .ok (.getfield 41, 3) := by decide +kernel
theorem dX10_step_26 : decode cX10_step 26 = .ok (.invokevirtual 149, 3) := by decide +kernel
theorem dX10_step_29 : decode cX10_step 29 = .ok (.ifCond .ne 6, 3) := by decide +kernel
theorem dX10_step_32 : decode cX10_step 32 = .ok (.bipush (-103), 2) := by decide +kernel
theorem dX10_step_34 : decode cX10_step 34 = .ok (.ireturn, 1) := by decide +kernel
theorem dX10_step_35 : decode cX10_step 35 = .ok (.aload_n 0, 1) := by decide +kernel
theorem dX10_step_36 : decode cX10_step 36 = .ok (.getfield 30, 3) := by decide +kernel
theorem dX10_step_39 : decode cX10_step 39 = .ok (.getfield 171, 3) := by decide +kernel
theorem dX10_step_42 : decode cX10_step 42 = .ok (.bipush 8, 2) := by decide +kernel
theorem dX10_step_44 : decode cX10_step 44 = .ok (.if_icmp .lt 6, 3) := by decide +kernel
theorem dX10_step_47 : decode cX10_step 47 = .ok (.bipush (-104), 2) := by decide +kernel
theorem dX10_step_49 : decode cX10_step 49 = .ok (.ireturn, 1) := by decide +kernel
theorem dX10_step_50 : decode cX10_step 50 = .ok (.aload_n 0, 1) := by decide +kernel
theorem dX10_step_51 : decode cX10_step 51 = .ok (.getfield 30, 3) := by decide +kernel
theorem dX10_step_54 : decode cX10_step 54 = .ok (.getfield 174, 3) := by decide +kernel
theorem dX10_step_57 : decode cX10_step 57 = .ok (.aload_n 0, 1) := by decide +kernel
theorem dX10_step_58 : decode cX10_step 58 = .ok (.getfield 30, 3) := by decide +kernel
theorem dX10_step_61 : decode cX10_step 61 = .ok (.getfield 171, 3) := by decide +kernel
theorem dX10_step_64 : decode cX10_step 64 = .ok (.aaload, 1) := by decide +kernel
theorem dX10_step_65 : decode cX10_step 65 = .ok (.aload_n 0, 1) := by decide +kernel
theorem dX10_step_66 : decode cX10_step 66 = .ok (.getfield 41, 3) := by decide +kernel
theorem dX10_step_69 : decode cX10_step 69 = .ok (.getfield 158, 3) := by decide +kernel
theorem dX10_step_72 : decode cX10_step 72 = .ok (.invokevirtual 162, 3) := by decide +kernel
theorem dX10_step_75 : decode cX10_step 75 = .ok (.aload_n 0, 1) := by decide +kernel
theorem dX10_step_76 : decode cX10_step 76 = .ok (.getfield 30, 3) := by decide +kernel
theorem dX10_step_79 : decode cX10_step 79 = .ok (.dup, 1) := by decide +kernel
theorem dX10_step_80 : decode cX10_step 80 = .ok (.getfield 171, 3) := by decide +kernel
theorem dX10_step_83 : decode cX10_step 83 = .ok (.iconst 1, 1) := by decide +kernel
theorem dX10_step_84 : decode cX10_step 84 = .ok (.iadd, 1) := by decide +kernel
theorem dX10_step_85 : decode cX10_step 85 = .ok (.putfield 171, 3) := by decide +kernel
theorem dX10_step_88 : decode cX10_step 88 = .ok (.aload_n 0, 1) := by decide +kernel
theorem dX10_step_89 : decode cX10_step 89 = .ok (.getfield 34, 3) := by decide +kernel
theorem dX10_step_92 : decode cX10_step 92 = .ok (.iconst 0, 1) := by decide +kernel
theorem dX10_step_93 : decode cX10_step 93 = .ok (.putfield 140, 3) := by decide +kernel
theorem dX10_step_96 : decode cX10_step 96 = .ok (.aload_n 0, 1) := by decide +kernel
theorem dX10_step_97 : decode cX10_step 97 = .ok (.getfield 12, 3) := by decide +kernel
theorem dX10_step_100 : decode cX10_step 100 = .ok (.invokevirtual 168, 3) := by decide +kernel
theorem dX10_step_103 : decode cX10_step 103 = .ok (.aload_n 0, 1) := by decide +kernel
theorem dX10_step_104 : decode cX10_step 104 = .ok (.getfield 30, 3) := by decide +kernel
theorem dX10_step_107 : decode cX10_step 107 = .ok (.getfield 171, 3) := by decide +kernel
theorem dX10_step_110 : decode cX10_step 110 = .ok (.iconst 1, 1) := by decide +kernel
theorem dX10_step_111 : decode cX10_step 111 = .ok (.isub, 1) := by decide +kernel
theorem dX10_step_112 : decode cX10_step 112 = .ok (.ireturn, 1) := by decide +kernel
theorem dX10_bare_0 : decode cX10_bare 0 = .ok (.aload_n 0, 1) := by decide +kernel
theorem dX10_bare_1 : decode cX10_bare 1 = .ok (.getfield 30, 3) := by decide +kernel
theorem dX10_bare_4 : decode cX10_bare 4 = .ok (.getfield 171, 3) := by decide +kernel
theorem dX10_bare_7 : decode cX10_bare 7 = .ok (.istore_n 1, 1) := by decide +kernel
theorem dX10_bare_8 : decode cX10_bare 8 = .ok (.aload_n 0, 1) := by decide +kernel
theorem dX10_bare_9 : decode cX10_bare 9 = .ok (.getfield 30, 3) := by decide +kernel
theorem dX10_bare_12 : decode cX10_bare 12 = .ok (.iconst 0, 1) := by decide +kernel
theorem dX10_bare_13 : decode cX10_bare 13 = .ok (.putfield 171, 3) := by decide +kernel
theorem dX10_bare_16 : decode cX10_bare 16 = .ok (.aload_n 0, 1) := by decide +kernel
theorem dX10_bare_17 : decode cX10_bare 17 = .ok (.getfield 12, 3) := by decide +kernel
theorem dX10_bare_20 : decode cX10_bare 20 = .ok (.invokevirtual 168, 3) := by decide +kernel
theorem dX10_bare_23 : decode cX10_bare 23 = .ok (.iload_n 1, 1) := by decide +kernel
theorem dX10_bare_24 : decode cX10_bare 24 = .ok (.ireturn, 1) := by decide +kernel
theorem dX10_always_0 : decode cX10_always 0 = .ok (.aload_n 0, 1) := by decide +kernel
theorem dX10_always_1 : decode cX10_always 1 = .ok (.getfield 25, 3) := by decide +kernel
theorem dX10_always_4 : decode cX10_always 4 = .ok (.iload_n 1, 1) := by decide +kernel
theorem dX10_always_5 : decode cX10_always 5 = .ok (.invokevirtual 97, 3) := by decide +kernel
theorem dX10_always_8 : decode cX10_always 8 = .ok (.ifCond .ne 6, 3) := by decide +kernel
theorem dX10_always_11 : decode cX10_always 11 = .ok (.bipush (-101), 2) := by decide +kernel
theorem dX10_always_13 : decode cX10_always 13 = .ok (.ireturn, 1) := by decide +kernel
theorem dX10_always_14 : decode cX10_always 14 = .ok (.aload_n 0, 1) := by decide +kernel
theorem dX10_always_15 : decode cX10_always 15 = .ok (.getfield 25, 3) := by decide +kernel
theorem dX10_always_18 : decode cX10_always 18 = .ok (.getfield 177, 3) := by decide +kernel
theorem dX10_always_21 : decode cX10_always 21 = .ok (.iload_n 1, 1) := by decide +kernel
theorem dX10_always_22 : decode cX10_always 22 = .ok (.ishr, 1) := by decide +kernel
theorem dX10_always_23 : decode cX10_always 23 = .ok (.iconst 1, 1) := by decide +kernel
theorem dX10_always_24 : decode cX10_always 24 = .ok (.iand, 1) := by decide +kernel
theorem dX10_always_25 : decode cX10_always 25 = .ok (.istore_n 3, 1) := by decide +kernel
theorem dX10_always_26 : decode cX10_always 26 = .ok (.aload_n 0, 1) := by decide +kernel
theorem dX10_always_27 : decode cX10_always 27 = .ok (.getfield 25, 3) := by decide +kernel
theorem dX10_always_30 : decode cX10_always 30 = .ok (.iload_n 2, 1) := by decide +kernel
theorem dX10_always_31 : decode cX10_always 31 = .ok (.ifCond .eq 17, 3) := by decide +kernel
theorem dX10_always_34 : decode cX10_always 34 = .ok (.aload_n 0, 1) := by decide +kernel
theorem dX10_always_35 : decode cX10_always 35 = .ok (.getfield 25, 3) := by decide +kernel
theorem dX10_always_38 : decode cX10_always 38 = .ok (.getfield 177, 3) := by decide +kernel
theorem dX10_always_41 : decode cX10_always 41 = .ok (.iconst 1, 1) := by decide +kernel
theorem dX10_always_42 : decode cX10_always 42 = .ok (.iload_n 1, 1) := by decide +kernel
theorem dX10_always_43 : decode cX10_always 43 = .ok (.ishl, 1) := by decide +kernel
theorem dX10_always_44 : decode cX10_always 44 = .ok (.ior, 1) := by decide +kernel
theorem dX10_always_45 : decode cX10_always 45 = .ok (.goto 16, 3) := by decide +kernel
theorem dX10_always_48 : decode cX10_always 48 = .ok (.aload_n 0, 1) := by decide +kernel
theorem dX10_always_49 : decode cX10_always 49 = .ok (.getfield 25, 3) := by decide +kernel
theorem dX10_always_52 : decode cX10_always 52 = .ok (.getfield 177, 3) := by decide +kernel
theorem dX10_always_55 : decode cX10_always 55 = .ok (.iconst 1, 1) := by decide +kernel
theorem dX10_always_56 : decode cX10_always 56 = .ok (.iload_n 1, 1) := by decide +kernel
theorem dX10_always_57 : decode cX10_always 57 = .ok (.ishl, 1) := by decide +kernel
theorem dX10_always_58 : decode cX10_always 58 = .ok (.iconst (-1), 1) := by decide +kernel
theorem dX10_always_59 : decode cX10_always 59 = .ok (.ixor, 1) := by decide +kernel
theorem dX10_always_60 : decode cX10_always 60 = .ok (.iand, 1) := by decide +kernel
theorem dX10_always_61 : decode cX10_always 61 = .ok (.putfield 177, 3) := by decide +kernel
theorem dX10_always_64 : decode cX10_always 64 = .ok (.iload_n 3, 1) := by decide +kernel
theorem dX10_always_65 : decode cX10_always 65 = .ok (.ireturn, 1) := by decide +kernel
theorem dX10_holds_0 : decode cX10_holds 0 = .ok (.aload_n 0, 1) := by decide +kernel
theorem dX10_holds_1 : decode cX10_holds 1 = .ok (.getfield 25, 3) := by decide +kernel
theorem dX10_holds_4 : decode cX10_holds 4 = .ok (.iload_n 1, 1) := by decide +kernel
theorem dX10_holds_5 : decode cX10_holds 5 = .ok (.invokevirtual 97, 3) := by decide +kernel
theorem dX10_holds_8 : decode cX10_holds 8 = .ok (.ifCond .ne 6, 3) := by decide +kernel
theorem dX10_holds_11 : decode cX10_holds 11 = .ok (.bipush (-101), 2) := by decide +kernel
theorem dX10_holds_13 : decode cX10_holds 13 = .ok (.ireturn, 1) := by decide +kernel
theorem dX10_holds_14 : decode cX10_holds 14 = .ok (.lload_n 2, 1) := by decide +kernel
theorem dX10_holds_15 : decode cX10_holds 15 = .ok (.invokestatic 180, 3) := by decide +kernel
theorem dX10_holds_18 : decode cX10_holds 18 = .ok (.ifCond .ne 6, 3) := by decide +kernel
theorem dX10_holds_21 : decode cX10_holds 21 = .ok (.bipush (-102), 2) := by decide +kernel
theorem dX10_holds_23 : decode cX10_holds 23 = .ok (.ireturn, 1) := by decide +kernel
theorem dX10_holds_24 : decode cX10_holds 24 = .ok (.aload_n 0, 1) := by decide +kernel
theorem dX10_holds_25 : decode cX10_holds 25 = .ok (.getfield 25, 3) := by decide +kernel
theorem dX10_holds_28 : decode cX10_holds 28 = .ok (.lload_n 2, 1) := by decide +kernel
theorem dX10_holds_29 : decode cX10_holds 29 = .ok (.invokestatic 184, 3) := by decide +kernel
theorem dX10_holds_32 : decode cX10_holds 32 = .ok (.invokevirtual 187, 3) := by decide +kernel
theorem dX10_holds_35 : decode cX10_holds 35 = .ok (.iload_n 1, 1) := by decide +kernel
theorem dX10_holds_36 : decode cX10_holds 36 = .ok (.ishr, 1) := by decide +kernel
theorem dX10_holds_37 : decode cX10_holds 37 = .ok (.iconst 1, 1) := by decide +kernel
theorem dX10_holds_38 : decode cX10_holds 38 = .ok (.iand, 1) := by decide +kernel
theorem dX10_holds_39 : decode cX10_holds 39 = .ok (.iconst 1, 1) := by decide +kernel
theorem dX10_holds_40 : decode cX10_holds 40 = .ok (.ixor, 1) := by decide +kernel
theorem dX10_holds_41 : decode cX10_holds 41 = .ok (.ireturn, 1) := by decide +kernel
theorem dX10_found_0 : decode cX10_found 0 = .ok (.aload_n 0, 1) := by decide +kernel
theorem dX10_found_1 : decode cX10_found 1 = .ok (.getfield 20, 3) := by decide +kernel
theorem dX10_found_4 : decode cX10_found 4 = .ok (.iload_n 1, 1) := by decide +kernel
theorem dX10_found_5 : decode cX10_found 5 = .ok (.invokevirtual 190, 3) := by decide +kernel
theorem dX10_found_8 : decode cX10_found 8 = .ok (.ifCond .ne 6, 3) := by decide +kernel
theorem dX10_found_11 : decode cX10_found 11 = .ok (.bipush (-102), 2) := by decide +kernel
theorem dX10_found_13 : decode cX10_found 13 = .ok (.ireturn, 1) := by decide +kernel
theorem dX10_found_14 : decode cX10_found 14 = .ok (.aload_n 0, 1) := by decide +kernel
theorem dX10_found_15 : decode cX10_found 15 = .ok (.getfield 48, 3) := by decide +kernel
theorem dX10_found_18 : decode cX10_found 18 = .ok (.aload_n 0, 1) := by decide +kernel
theorem dX10_found_19 : decode cX10_found 19 = .ok (.getfield 20, 3) := by decide +kernel
theorem dX10_found_22 : decode cX10_found 22 = .ok (.iload_n 1, 1) := by decide +kernel
theorem dX10_found_23 : decode cX10_found 23 = .ok (.invokevirtual 193, 3) := by decide +kernel
theorem dX10_found_26 : decode cX10_found 26 = .ok (.aload_n 0, 1) := by decide +kernel
theorem dX10_found_27 : decode cX10_found 27 = .ok (.getfield 48, 3) := by decide +kernel
theorem dX10_found_30 : decode cX10_found 30 = .ok (.getfield 197, 3) := by decide +kernel
theorem dX10_found_33 : decode cX10_found 33 = .ok (.ireturn, 1) := by decide +kernel
theorem dX10_plate_0 : decode cX10_plate 0 = .ok (.aload_n 0, 1) := by decide +kernel
theorem dX10_plate_1 : decode cX10_plate 1 = .ok (.getfield 20, 3) := by decide +kernel
theorem dX10_plate_4 : decode cX10_plate 4 = .ok (.iload_n 1, 1) := by decide +kernel
theorem dX10_plate_5 : decode cX10_plate 5 = .ok (.invokevirtual 190, 3) := by decide +kernel
theorem dX10_plate_8 : decode cX10_plate 8 = .ok (.ifCond .ne 7, 3) := by decide +kernel
theorem dX10_plate_11 : decode cX10_plate 11 = .ok (.ldc2_w 198, 3) := by decide +kernel
theorem dX10_plate_14 : decode cX10_plate 14 = .ok (.lreturn, 1) := by decide +kernel
theorem dX10_plate_15 : decode cX10_plate 15 = .ok (.aload_n 0, 1) := by decide +kernel
theorem dX10_plate_16 : decode cX10_plate 16 = .ok (.getfield 48, 3) := by decide +kernel
theorem dX10_plate_19 : decode cX10_plate 19 = .ok (.aload_n 0, 1) := by decide +kernel
theorem dX10_plate_20 : decode cX10_plate 20 = .ok (.getfield 20, 3) := by decide +kernel
theorem dX10_plate_23 : decode cX10_plate 23 = .ok (.iload_n 1, 1) := by decide +kernel
theorem dX10_plate_24 : decode cX10_plate 24 = .ok (.invokevirtual 193, 3) := by decide +kernel
theorem dX10_plate_27 : decode cX10_plate 27 = .ok (.iload_n 2, 1) := by decide +kernel
theorem dX10_plate_28 : decode cX10_plate 28 = .ok (.ifCond .lt 29, 3) := by decide +kernel
theorem dX10_plate_31 : decode cX10_plate 31 = .ok (.iload_n 2, 1) := by decide +kernel
theorem dX10_plate_32 : decode cX10_plate 32 = .ok (.aload_n 0, 1) := by decide +kernel
theorem dX10_plate_33 : decode cX10_plate 33 = .ok (.getfield 48, 3) := by decide +kernel
theorem dX10_plate_36 : decode cX10_plate 36 = .ok (.getfield 197, 3) := by decide +kernel
theorem dX10_plate_39 : decode cX10_plate 39 = .ok (.if_icmp .ge 18, 3) := by decide +kernel
theorem dX10_plate_42 : decode cX10_plate 42 = .ok (.aload_n 0, 1) := by decide +kernel
theorem dX10_plate_43 : decode cX10_plate 43 = .ok (.getfield 48, 3) := by decide +kernel
theorem dX10_plate_46 : decode cX10_plate 46 = .ok (.getfield 200, 3) := by decide +kernel
theorem dX10_plate_49 : decode cX10_plate 49 = .ok (.iload_n 2, 1) := by decide +kernel
theorem dX10_plate_50 : decode cX10_plate 50 = .ok (.laload, 1) := by decide +kernel
theorem dX10_plate_51 : decode cX10_plate 51 = .ok (.invokestatic 128, 3) := by decide +kernel
theorem dX10_plate_54 : decode cX10_plate 54 = .ok (.goto 6, 3) := by decide +kernel
theorem dX10_plate_57 : decode cX10_plate 57 = .ok (.ldc2_w 204, 3) := by decide +kernel
theorem dX10_plate_60 : decode cX10_plate 60 = .ok (.lreturn, 1) := by decide +kernel
theorem dX10_heal_0 : decode cX10_heal 0 = .ok (.lload_n 1, 1) := by decide +kernel
theorem dX10_heal_1 : decode cX10_heal 1 = .ok (.invokestatic 180, 3) := by decide +kernel
theorem dX10_heal_4 : decode cX10_heal 4 = .ok (.ifCond .ne 7, 3) := by decide +kernel
theorem dX10_heal_7 : decode cX10_heal 7 = .ok (.ldc2_w 198, 3) := by decide +kernel
theorem dX10_heal_10 : decode cX10_heal 10 = .ok (.lreturn, 1) := by decide +kernel
theorem dX10_heal_11 : decode cX10_heal 11 = .ok (.aload_n 0, 1) := by decide +kernel
theorem dX10_heal_12 : decode cX10_heal 12 = .ok (.getfield 30, 3) := by decide +kernel
theorem dX10_heal_15 : decode cX10_heal 15 = .ok (.lload_n 1, 1) := by decide +kernel
theorem dX10_heal_16 : decode cX10_heal 16 = .ok (.invokestatic 184, 3) := by decide +kernel
theorem dX10_heal_19 : decode cX10_heal 19 = .ok (.invokevirtual 206, 3) := by decide +kernel
theorem dX10_heal_22 : decode cX10_heal 22 = .ok (.invokestatic 128, 3) := by decide +kernel
theorem dX10_heal_25 : decode cX10_heal 25 = .ok (.lreturn, 1) := by decide +kernel
theorem dX10_cut_0 : decode cX10_cut 0 = .ok (.lload_n 1, 1) := by decide +kernel
theorem dX10_cut_1 : decode cX10_cut 1 = .ok (.invokestatic 180, 3) := by decide +kernel
theorem dX10_cut_4 : decode cX10_cut 4 = .ok (.ifCond .ne 7, 3) := by decide +kernel
theorem dX10_cut_7 : decode cX10_cut 7 = .ok (.ldc2_w 198, 3) := by decide +kernel
theorem dX10_cut_10 : decode cX10_cut 10 = .ok (.lreturn, 1) := by decide +kernel
theorem dX10_cut_11 : decode cX10_cut 11 = .ok (.iload_n 3, 1) := by decide +kernel
theorem dX10_cut_12 : decode cX10_cut 12 = .ok (.ifCond .lt 14, 3) := by decide +kernel
theorem dX10_cut_15 : decode cX10_cut 15 = .ok (.iload_n 3, 1) := by decide +kernel
theorem dX10_cut_16 : decode cX10_cut 16 = .ok (.aload_n 0, 1) := by decide +kernel
theorem dX10_cut_17 : decode cX10_cut 17 = .ok (.getfield 30, 3) := by decide +kernel
theorem dX10_cut_20 : decode cX10_cut 20 = .ok (.getfield 171, 3) := by decide +kernel
theorem dX10_cut_23 : decode cX10_cut 23 = .ok (.if_icmp .le 7, 3) := by decide +kernel
theorem dX10_cut_26 : decode cX10_cut 26 = .ok (.ldc2_w 204, 3) := by decide +kernel
theorem dX10_cut_29 : decode cX10_cut 29 = .ok (.lreturn, 1) := by decide +kernel
theorem dX10_cut_30 : decode cX10_cut 30 = .ok (.aload_n 0, 1) := by decide +kernel
theorem dX10_cut_31 : decode cX10_cut 31 = .ok (.getfield 30, 3) := by decide +kernel
theorem dX10_cut_34 : decode cX10_cut 34 = .ok (.aload_n 0, 1) := by decide +kernel
theorem dX10_cut_35 : decode cX10_cut 35 = .ok (.getfield 30, 3) := by decide +kernel
theorem dX10_cut_38 : decode cX10_cut 38 = .ok (.lload_n 1, 1) := by decide +kernel
theorem dX10_cut_39 : decode cX10_cut 39 = .ok (.invokestatic 184, 3) := by decide +kernel
theorem dX10_cut_42 : decode cX10_cut 42 = .ok (.iconst 0, 1) := by decide +kernel
theorem dX10_cut_43 : decode cX10_cut 43 = .ok (.iload_n 3, 1) := by decide +kernel
theorem dX10_cut_44 : decode cX10_cut 44 = .ok (.invokevirtual 209, 3) := by decide +kernel
theorem dX10_cut_47 : decode cX10_cut 47 = .ok (.invokevirtual 206, 3) := by decide +kernel
theorem dX10_cut_50 : decode cX10_cut 50 = .ok (.invokestatic 128, 3) := by decide +kernel
theorem dX10_cut_53 : decode cX10_cut 53 = .ok (.lreturn, 1) := by decide +kernel
theorem dX10_steady_0 : decode cX10_steady 0 = .ok (.lload_n 1, 1) := by decide +kernel
theorem dX10_steady_1 : decode cX10_steady 1 = .ok (.invokestatic 180, 3) := by decide +kernel
theorem dX10_steady_4 : decode cX10_steady 4 = .ok (.ifCond .ne 6, 3) := by decide +kernel
theorem dX10_steady_7 : decode cX10_steady 7 = .ok (.bipush (-102), 2) := by decide +kernel
theorem dX10_steady_9 : decode cX10_steady 9 = .ok (.ireturn, 1) := by decide +kernel
theorem dX10_steady_10 : decode cX10_steady 10 = .ok (.lload_n 1, 1) := by decide +kernel
theorem dX10_steady_11 : decode cX10_steady 11 = .ok (.invokestatic 184, 3) := by decide +kernel
theorem dX10_steady_14 : decode cX10_steady 14 = .ok (.lstore_n 3, 1) := by decide +kernel
theorem dX10_steady_15 : decode cX10_steady 15 = .ok (.aload_n 0, 1) := by decide +kernel
theorem dX10_steady_16 : decode cX10_steady 16 = .ok (.getfield 30, 3) := by decide +kernel
theorem dX10_steady_19 : decode cX10_steady 19 = .ok (.lload_n 3, 1) := by decide +kernel
theorem dX10_steady_20 : decode cX10_steady 20 = .ok (.aload_n 0, 1) := by decide +kernel
theorem dX10_steady_21 : decode cX10_steady 21 = .ok (.getfield 30, 3) := by decide +kernel
theorem dX10_steady_24 : decode cX10_steady 24 = .ok (.lload_n 3, 1) := by decide +kernel
theorem dX10_steady_25 : decode cX10_steady 25 = .ok (.invokevirtual 206, 3) := by decide +kernel
theorem dX10_steady_28 : decode cX10_steady 28 = .ok (.invokevirtual 212, 3) := by decide +kernel
theorem dX10_steady_31 : decode cX10_steady 31 = .ok (.ifCond .eq 7, 3) := by decide +kernel
theorem dX10_steady_34 : decode cX10_steady 34 = .ok (.iconst 1, 1) := by decide +kernel
theorem dX10_steady_35 : decode cX10_steady 35 = .ok (.goto 4, 3) := by decide +kernel
theorem dX10_steady_38 : decode cX10_steady 38 = .ok (.iconst 0, 1) := by decide +kernel
theorem dX10_steady_39 : decode cX10_steady 39 = .ok (.ireturn, 1) := by decide +kernel
theorem dX10_kept_0 : decode cX10_kept 0 = .ok (.aload_n 0, 1) := by decide +kernel
theorem dX10_kept_1 : decode cX10_kept 1 = .ok (.getfield 25, 3) := by decide +kernel
theorem dX10_kept_4 : decode cX10_kept 4 = .ok (.iload_n 1, 1) := by decide +kernel
theorem dX10_kept_5 : decode cX10_kept 5 = .ok (.invokevirtual 97, 3) := by decide +kernel
theorem dX10_kept_8 : decode cX10_kept 8 = .ok (.ifCond .ne 6, 3) := by decide +kernel
theorem dX10_kept_11 : decode cX10_kept 11 = .ok (.bipush (-101), 2) := by decide +kernel
theorem dX10_kept_13 : decode cX10_kept 13 = .ok (.ireturn, 1) := by decide +kernel
theorem dX10_kept_14 : decode cX10_kept 14 = .ok (.aload_n 0, 1) := by decide +kernel
theorem dX10_kept_15 : decode cX10_kept 15 = .ok (.getfield 20, 3) := by decide +kernel
theorem dX10_kept_18 : decode cX10_kept 18 = .ok (.iload_n 2, 1) := by decide +kernel
theorem dX10_kept_19 : decode cX10_kept 19 = .ok (.invokevirtual 190, 3) := by decide +kernel
theorem dX10_kept_22 : decode cX10_kept 22 = .ok (.ifCond .eq 12, 3) := by decide +kernel
theorem dX10_kept_25 : decode cX10_kept 25 = .ok (.iload_n 3, 1) := by decide +kernel
theorem dX10_kept_26 : decode cX10_kept 26 = .ok (.ifCond .eq 11, 3) := by decide +kernel
theorem dX10_kept_29 : decode cX10_kept 29 = .ok (.iload_n 3, 1) := by decide +kernel
theorem dX10_kept_30 : decode cX10_kept 30 = .ok (.iconst 1, 1) := by decide +kernel
theorem dX10_kept_31 : decode cX10_kept 31 = .ok (.if_icmp .eq 6, 3) := by decide +kernel
theorem dX10_kept_34 : decode cX10_kept 34 = .ok (.bipush (-102), 2) := by decide +kernel
theorem dX10_kept_36 : decode cX10_kept 36 = .ok (.ireturn, 1) := by decide +kernel
theorem dX10_kept_37 : decode cX10_kept 37 = .ok (.aload_n 0, 1) := by decide +kernel
theorem dX10_kept_38 : decode cX10_kept 38 = .ok (.getfield 48, 3) := by decide +kernel
theorem dX10_kept_41 : decode cX10_kept 41 = .ok (.aload_n 0, 1) := by decide +kernel
theorem dX10_kept_42 : decode cX10_kept 42 = .ok (.getfield 20, 3) := by decide +kernel
theorem dX10_kept_45 : decode cX10_kept 45 = .ok (.iload_n 2, 1) := by decide +kernel
theorem dX10_kept_46 : decode cX10_kept 46 = .ok (.invokevirtual 193, 3) := by decide +kernel
theorem dX10_kept_49 : decode cX10_kept 49 = .ok (.iconst 0, 1) := by decide +kernel
theorem dX10_kept_50 : decode cX10_kept 50 = .ok (.istore 4, 2) := by decide +kernel
theorem dX10_kept_52 : decode cX10_kept 52 = .ok (.iconst 0, 1) := by decide +kernel
theorem dX10_kept_53 : decode cX10_kept 53 = .ok (.istore 5, 2) := by decide +kernel
theorem dX10_kept_55 : decode cX10_kept 55 = .ok (.iload 5, 2) := by decide +kernel
theorem dX10_kept_57 : decode cX10_kept 57 = .ok (.aload_n 0, 1) := by decide +kernel
theorem dX10_kept_58 : decode cX10_kept 58 = .ok (.getfield 48, 3) := by decide +kernel
theorem dX10_kept_61 : decode cX10_kept 61 = .ok (.getfield 197, 3) := by decide +kernel
theorem dX10_kept_64 : decode cX10_kept 64 = .ok (.if_icmp .ge 66, 3) := by decide +kernel
theorem dX10_kept_67 : decode cX10_kept 67 = .ok (.iload_n 3, 1) := by decide +kernel
theorem dX10_kept_68 : decode cX10_kept 68 = .ok (.iconst 1, 1) := by decide +kernel
theorem dX10_kept_69 : decode cX10_kept 69 = .ok (.if_icmp .ne 23, 3) := by decide +kernel
theorem dX10_kept_72 : decode cX10_kept 72 = .ok (.aload_n 0, 1) := by decide +kernel
theorem dX10_kept_73 : decode cX10_kept 73 = .ok (.getfield 12, 3) := by decide +kernel
theorem dX10_kept_76 : decode cX10_kept 76 = .ok (.aload_n 0, 1) := by decide +kernel
theorem dX10_kept_77 : decode cX10_kept 77 = .ok (.getfield 48, 3) := by decide +kernel
theorem dX10_kept_80 : decode cX10_kept 80 = .ok (.getfield 216, 3) := by decide +kernel
theorem dX10_kept_83 : decode cX10_kept 83 = .ok (.iload 5, 2) := by decide +kernel
theorem dX10_kept_85 : decode cX10_kept 85 = .ok (.iaload, 1) := by decide +kernel
theorem dX10_kept_86 : decode cX10_kept 86 = .ok (.invokevirtual 220, 3) := by decide +kernel
theorem dX10_kept_89 : decode cX10_kept 89 = .ok (.goto 20, 3) := by decide +kernel
theorem dX10_kept_92 : decode cX10_kept 92 = .ok (.aload_n 0, 1) := by decide +kernel
theorem dX10_kept_93 : decode cX10_kept 93 = .ok (.getfield 25, 3) := by decide +kernel
theorem dX10_kept_96 : decode cX10_kept 96 = .ok (.aload_n 0, 1) := by decide +kernel
theorem dX10_kept_97 : decode cX10_kept 97 = .ok (.getfield 48, 3) := by decide +kernel
theorem dX10_kept_100 : decode cX10_kept 100 = .ok (.getfield 200, 3) := by decide +kernel
theorem dX10_kept_103 : decode cX10_kept 103 = .ok (.iload 5, 2) := by decide +kernel
theorem dX10_kept_105 : decode cX10_kept 105 = .ok (.laload, 1) := by decide +kernel
theorem dX10_kept_106 : decode cX10_kept 106 = .ok (.invokevirtual 187, 3) := by decide +kernel
theorem dX10_kept_109 : decode cX10_kept 109 = .ok (.istore 6, 2) := by decide +kernel
theorem dX10_kept_111 : decode cX10_kept 111 = .ok (.iload 4, 2) := by decide +kernel
theorem dX10_kept_113 : decode cX10_kept 113 = .ok (.iload 6, 2) := by decide +kernel
theorem dX10_kept_115 : decode cX10_kept 115 = .ok (.iload_n 1, 1) := by decide +kernel
theorem dX10_kept_116 : decode cX10_kept 116 = .ok (.ishr, 1) := by decide +kernel
theorem dX10_kept_117 : decode cX10_kept 117 = .ok (.iconst 1, 1) := by decide +kernel
theorem dX10_kept_118 : decode cX10_kept 118 = .ok (.iand, 1) := by decide +kernel
theorem dX10_kept_119 : decode cX10_kept 119 = .ok (.iconst 1, 1) := by decide +kernel
theorem dX10_kept_120 : decode cX10_kept 120 = .ok (.ixor, 1) := by decide +kernel
theorem dX10_kept_121 : decode cX10_kept 121 = .ok (.iadd, 1) := by decide +kernel
theorem dX10_kept_122 : decode cX10_kept 122 = .ok (.istore 4, 2) := by decide +kernel
theorem dX10_kept_124 : decode cX10_kept 124 = .ok (.iinc 5 1, 3) := by decide +kernel
theorem dX10_kept_127 : decode cX10_kept 127 = .ok (.goto (-72), 3) := by decide +kernel
theorem dX10_kept_130 : decode cX10_kept 130 = .ok (.iload 4, 2) := by decide +kernel
theorem dX10_kept_132 : decode cX10_kept 132 = .ok (.ireturn, 1) := by decide +kernel
theorem dX10_broken_0 : decode cX10_broken 0 = .ok (.aload_n 0, 1) := by decide +kernel
theorem dX10_broken_1 : decode cX10_broken 1 = .ok (.getfield 20, 3) := by decide +kernel
theorem dX10_broken_4 : decode cX10_broken 4 = .ok (.iload_n 1, 1) := by decide +kernel
theorem dX10_broken_5 : decode cX10_broken 5 = .ok (.invokevirtual 190, 3) := by decide +kernel
theorem dX10_broken_8 : decode cX10_broken 8 = .ok (.ifCond .ne 6, 3) := by decide +kernel
theorem dX10_broken_11 : decode cX10_broken 11 = .ok (.bipush (-102), 2) := by decide +kernel
theorem dX10_broken_13 : decode cX10_broken 13 = .ok (.ireturn, 1) := by decide +kernel
theorem dX10_broken_14 : decode cX10_broken 14 = .ok (.aload_n 0, 1) := by decide +kernel
theorem dX10_broken_15 : decode cX10_broken 15 = .ok (.getfield 48, 3) := by decide +kernel
theorem dX10_broken_18 : decode cX10_broken 18 = .ok (.aload_n 0, 1) := by decide +kernel
theorem dX10_broken_19 : decode cX10_broken 19 = .ok (.getfield 20, 3) := by decide +kernel
theorem dX10_broken_22 : decode cX10_broken 22 = .ok (.iload_n 1, 1) := by decide +kernel
theorem dX10_broken_23 : decode cX10_broken 23 = .ok (.invokevirtual 193, 3) := by decide +kernel
theorem dX10_broken_26 : decode cX10_broken 26 = .ok (.aload_n 0, 1) := by decide +kernel
theorem dX10_broken_27 : decode cX10_broken 27 = .ok (.getfield 20, 3) := by decide +kernel
theorem dX10_broken_30 : decode cX10_broken 30 = .ok (.iload_n 1, 1) := by decide +kernel
theorem dX10_broken_31 : decode cX10_broken 31 = .ok (.aload_n 0, 1) := by decide +kernel
theorem dX10_broken_32 : decode cX10_broken 32 = .ok (.getfield 25, 3) := by decide +kernel
theorem dX10_broken_35 : decode cX10_broken 35 = .ok (.getfield 177, 3) := by decide +kernel
theorem dX10_broken_38 : decode cX10_broken 38 = .ok (.invokevirtual 223, 3) := by decide +kernel
theorem dX10_broken_41 : decode cX10_broken 41 = .ok (.istore_n 2, 1) := by decide +kernel
theorem dX10_broken_42 : decode cX10_broken 42 = .ok (.iconst 0, 1) := by decide +kernel
theorem dX10_broken_43 : decode cX10_broken 43 = .ok (.istore_n 3, 1) := by decide +kernel
theorem dX10_broken_44 : decode cX10_broken 44 = .ok (.iconst 0, 1) := by decide +kernel
theorem dX10_broken_45 : decode cX10_broken 45 = .ok (.istore 4, 2) := by decide +kernel
theorem dX10_broken_47 : decode cX10_broken 47 = .ok (.iload 4, 2) := by decide +kernel
theorem dX10_broken_49 : decode cX10_broken 49 = .ok (.aload_n 0, 1) := by decide +kernel
theorem dX10_broken_50 : decode cX10_broken 50 = .ok (.getfield 48, 3) := by decide +kernel
theorem dX10_broken_53 : decode cX10_broken 53 = .ok (.getfield 197, 3) := by decide +kernel
theorem dX10_broken_56 : decode cX10_broken 56 = .ok (.if_icmp .ge 39, 3) := by decide +kernel
theorem dX10_broken_59 : decode cX10_broken 59 = .ok (.iload_n 3, 1) := by decide +kernel
theorem dX10_broken_60 : decode cX10_broken 60 = .ok (.aload_n 0, 1) := by decide +kernel
theorem dX10_broken_61 : decode cX10_broken 61 = .ok (.getfield 12, 3) := by decide +kernel
theorem dX10_broken_64 : decode cX10_broken 64 = .ok (.aload_n 0, 1) := by decide +kernel
theorem dX10_broken_65 : decode cX10_broken 65 = .ok (.getfield 48, 3) := by decide +kernel
theorem dX10_broken_68 : decode cX10_broken 68 = .ok (.getfield 216, 3) := by decide +kernel
theorem dX10_broken_71 : decode cX10_broken 71 = .ok (.iload 4, 2) := by decide +kernel
theorem dX10_broken_73 : decode cX10_broken 73 = .ok (.iaload, 1) := by decide +kernel
theorem dX10_broken_74 : decode cX10_broken 74 = .ok (.invokevirtual 220, 3) := by decide +kernel
theorem dX10_broken_77 : decode cX10_broken 77 = .ok (.iload_n 2, 1) := by decide +kernel
theorem dX10_broken_78 : decode cX10_broken 78 = .ok (.iand, 1) := by decide +kernel
theorem dX10_broken_79 : decode cX10_broken 79 = .ok (.ifCond .eq 7, 3) := by decide +kernel
theorem dX10_broken_82 : decode cX10_broken 82 = .ok (.iconst 1, 1) := by decide +kernel
theorem dX10_broken_83 : decode cX10_broken 83 = .ok (.goto 4, 3) := by decide +kernel
theorem dX10_broken_86 : decode cX10_broken 86 = .ok (.iconst 0, 1) := by decide +kernel
theorem dX10_broken_87 : decode cX10_broken 87 = .ok (.iadd, 1) := by decide +kernel
theorem dX10_broken_88 : decode cX10_broken 88 = .ok (.istore_n 3, 1) := by decide +kernel
theorem dX10_broken_89 : decode cX10_broken 89 = .ok (.iinc 4 1, 3) := by decide +kernel
theorem dX10_broken_92 : decode cX10_broken 92 = .ok (.goto (-45), 3) := by decide +kernel
theorem dX10_broken_95 : decode cX10_broken 95 = .ok (.iload_n 3, 1) := by decide +kernel
theorem dX10_broken_96 : decode cX10_broken 96 = .ok (.ireturn, 1) := by decide +kernel
theorem dX10_bounds_0 : decode cX10_bounds 0 = .ok (.iload_n 1, 1) := by decide +kernel
theorem dX10_bounds_1 : decode cX10_bounds 1 = .ok (.invokestatic 69, 3) := by decide +kernel
theorem dX10_bounds_4 : decode cX10_bounds 4 = .ok (.ifCond .ne 6, 3) := by decide +kernel
theorem dX10_bounds_7 : decode cX10_bounds 7 = .ok (.bipush (-101), 2) := by decide +kernel
theorem dX10_bounds_9 : decode cX10_bounds 9 = .ok (.ireturn, 1) := by decide +kernel
theorem dX10_bounds_10 : decode cX10_bounds 10 = .ok (.aload_n 0, 1) := by decide +kernel
theorem dX10_bounds_11 : decode cX10_bounds 11 = .ok (.getfield 20, 3) := by decide +kernel
theorem dX10_bounds_14 : decode cX10_bounds 14 = .ok (.iload_n 2, 1) := by decide +kernel
theorem dX10_bounds_15 : decode cX10_bounds 15 = .ok (.invokevirtual 190, 3) := by decide +kernel
theorem dX10_bounds_18 : decode cX10_bounds 18 = .ok (.ifCond .eq 12, 3) := by decide +kernel
theorem dX10_bounds_21 : decode cX10_bounds 21 = .ok (.iload_n 3, 1) := by decide +kernel
theorem dX10_bounds_22 : decode cX10_bounds 22 = .ok (.ifCond .eq 11, 3) := by decide +kernel
theorem dX10_bounds_25 : decode cX10_bounds 25 = .ok (.iload_n 3, 1) := by decide +kernel
theorem dX10_bounds_26 : decode cX10_bounds 26 = .ok (.iconst 1, 1) := by decide +kernel
theorem dX10_bounds_27 : decode cX10_bounds 27 = .ok (.if_icmp .eq 6, 3) := by decide +kernel
theorem dX10_bounds_30 : decode cX10_bounds 30 = .ok (.bipush (-102), 2) := by decide +kernel
theorem dX10_bounds_32 : decode cX10_bounds 32 = .ok (.ireturn, 1) := by decide +kernel
theorem dX10_bounds_33 : decode cX10_bounds 33 = .ok (.aload_n 0, 1) := by decide +kernel
theorem dX10_bounds_34 : decode cX10_bounds 34 = .ok (.getfield 48, 3) := by decide +kernel
theorem dX10_bounds_37 : decode cX10_bounds 37 = .ok (.aload_n 0, 1) := by decide +kernel
theorem dX10_bounds_38 : decode cX10_bounds 38 = .ok (.getfield 20, 3) := by decide +kernel
theorem dX10_bounds_41 : decode cX10_bounds 41 = .ok (.iload_n 2, 1) := by decide +kernel
theorem dX10_bounds_42 : decode cX10_bounds 42 = .ok (.invokevirtual 193, 3) := by decide +kernel
theorem dX10_bounds_45 : decode cX10_bounds 45 = .ok (.aload_n 0, 1) := by decide +kernel
theorem dX10_bounds_46 : decode cX10_bounds 46 = .ok (.getfield 48, 3) := by decide +kernel
theorem dX10_bounds_49 : decode cX10_bounds 49 = .ok (.getfield 200, 3) := by decide +kernel
theorem dX10_bounds_52 : decode cX10_bounds 52 = .ok (.iconst 0, 1) := by decide +kernel
theorem dX10_bounds_53 : decode cX10_bounds 53 = .ok (.laload, 1) := by decide +kernel
theorem dX10_bounds_54 : decode cX10_bounds 54 = .ok (.iload_n 1, 1) := by decide +kernel
theorem dX10_bounds_55 : decode cX10_bounds 55 = .ok (.invokestatic 82, 3) := by decide +kernel
theorem dX10_bounds_58 : decode cX10_bounds 58 = .ok (.istore 4, 2) := by decide +kernel
theorem dX10_bounds_60 : decode cX10_bounds 60 = .ok (.iconst 1, 1) := by decide +kernel
theorem dX10_bounds_61 : decode cX10_bounds 61 = .ok (.istore 5, 2) := by decide +kernel
theorem dX10_bounds_63 : decode cX10_bounds 63 = .ok (.iload 5, 2) := by decide +kernel
theorem dX10_bounds_65 : decode cX10_bounds 65 = .ok (.aload_n 0, 1) := by decide +kernel
theorem dX10_bounds_66 : decode cX10_bounds 66 = .ok (.getfield 48, 3) := by decide +kernel
theorem dX10_bounds_69 : decode cX10_bounds 69 = .ok (.getfield 197, 3) := by decide +kernel
theorem dX10_bounds_72 : decode cX10_bounds 72 = .ok (.if_icmp .ge 48, 3) := by decide +kernel
theorem dX10_bounds_75 : decode cX10_bounds 75 = .ok (.aload_n 0, 1) := by decide +kernel
theorem dX10_bounds_76 : decode cX10_bounds 76 = .ok (.getfield 48, 3) := by decide +kernel
theorem dX10_bounds_79 : decode cX10_bounds 79 = .ok (.getfield 200, 3) := by decide +kernel
theorem dX10_bounds_82 : decode cX10_bounds 82 = .ok (.iload 5, 2) := by decide +kernel
theorem dX10_bounds_84 : decode cX10_bounds 84 = .ok (.laload, 1) := by decide +kernel
theorem dX10_bounds_85 : decode cX10_bounds 85 = .ok (.iload_n 1, 1) := by decide +kernel
theorem dX10_bounds_86 : decode cX10_bounds 86 = .ok (.invokestatic 82, 3) := by decide +kernel
theorem dX10_bounds_89 : decode cX10_bounds 89 = .ok (.istore 6, 2) := by decide +kernel
theorem dX10_bounds_91 : decode cX10_bounds 91 = .ok (.iload_n 3, 1) := by decide +kernel
theorem dX10_bounds_92 : decode cX10_bounds 92 = .ok (.ifCond .ne 13, 3) := by decide +kernel
theorem dX10_bounds_95 : decode cX10_bounds 95 = .ok (.iload 4, 2) := by decide +kernel
theorem dX10_bounds_97 : decode cX10_bounds 97 = .ok (.iload 6, 2) := by decide +kernel
theorem dX10_bounds_99 : decode cX10_bounds 99 = .ok (.invokestatic 227, 3) := by decide +kernel
theorem dX10_bounds_102 : decode cX10_bounds 102 = .ok (.goto 10, 3) := by decide +kernel
theorem dX10_bounds_105 : decode cX10_bounds 105 = .ok (.iload 4, 2) := by decide +kernel
theorem dX10_bounds_107 : decode cX10_bounds 107 = .ok (.iload 6, 2) := by decide +kernel
theorem dX10_bounds_109 : decode cX10_bounds 109 = .ok (.invokestatic 232, 3) := by decide +kernel
theorem dX10_bounds_112 : decode cX10_bounds 112 = .ok (.istore 4, 2) := by decide +kernel
theorem dX10_bounds_114 : decode cX10_bounds 114 = .ok (.iinc 5 1, 3) := by decide +kernel
theorem dX10_bounds_117 : decode cX10_bounds 117 = .ok (.goto (-54), 3) := by decide +kernel
theorem dX10_bounds_120 : decode cX10_bounds 120 = .ok (.iload 4, 2) := by decide +kernel
theorem dX10_bounds_122 : decode cX10_bounds 122 = .ok (.ireturn, 1) := by decide +kernel
theorem dX10_safe_0 : decode cX10_safe 0 = .ok (.aload_n 0, 1) := by decide +kernel
theorem dX10_safe_1 : decode cX10_safe 1 = .ok (.getfield 12, 3) := by decide +kernel
theorem dX10_safe_4 : decode cX10_safe 4 = .ok (.aload_n 0, 1) := by decide +kernel
theorem dX10_safe_5 : decode cX10_safe 5 = .ok (.getfield 20, 3) := by decide +kernel
theorem dX10_safe_8 : decode cX10_safe 8 = .ok (.invokevirtual 120, 3) := by decide +kernel
theorem dX10_safe_11 : decode cX10_safe 11 = .ok (.invokevirtual 235, 3) := by decide +kernel
theorem dX10_safe_14 : decode cX10_safe 14 = .ok (.iconst (-1), 1) := by decide +kernel
theorem dX10_safe_15 : decode cX10_safe 15 = .ok (.if_icmp .ne 7, 3) := by decide +kernel
theorem dX10_safe_18 : decode cX10_safe 18 = .ok (.iconst 1, 1) := by decide +kernel
theorem dX10_safe_19 : decode cX10_safe 19 = .ok (.goto 4, 3) := by decide +kernel
theorem dX10_safe_22 : decode cX10_safe 22 = .ok (.iconst 0, 1) := by decide +kernel
theorem dX10_safe_23 : decode cX10_safe 23 = .ok (.ireturn, 1) := by decide +kernel
theorem dX10_shortest_0 : decode cX10_shortest 0 = .ok (.iload_n 1, 1) := by decide +kernel
theorem dX10_shortest_1 : decode cX10_shortest 1 = .ok (.ifCond .lt 8, 3) := by decide +kernel
theorem dX10_shortest_4 : decode cX10_shortest 4 = .ok (.iload_n 1, 1) := by decide +kernel
theorem dX10_shortest_5 : decode cX10_shortest 5 = .ok (.iconst 3, 1) := by decide +kernel
theorem dX10_shortest_6 : decode cX10_shortest 6 = .ok (.if_icmp .le 7, 3) := by decide +kernel
theorem dX10_shortest_9 : decode cX10_shortest 9 = .ok (.ldc2_w 198, 3) := by decide +kernel
theorem dX10_shortest_12 : decode cX10_shortest 12 = .ok (.lreturn, 1) := by decide +kernel
theorem dX10_shortest_13 : decode cX10_shortest 13 = .ok (.aload_n 0, 1) := by decide +kernel
theorem dX10_shortest_14 : decode cX10_shortest 14 = .ok (.getfield 12, 3) := by decide +kernel
theorem dX10_shortest_17 : decode cX10_shortest 17 = .ok (.aload_n 0, 1) := by decide +kernel
theorem dX10_shortest_18 : decode cX10_shortest 18 = .ok (.getfield 20, 3) := by decide +kernel
theorem dX10_shortest_21 : decode cX10_shortest 21 = .ok (.invokevirtual 120, 3) := by decide +kernel
theorem dX10_shortest_24 : decode cX10_shortest 24 = .ok (.invokevirtual 235, 3) := by decide +kernel
theorem dX10_shortest_27 : decode cX10_shortest 27 = .ok (.istore_n 2, 1) := by decide +kernel
theorem dX10_shortest_28 : decode cX10_shortest 28 = .ok (.iload_n 2, 1) := by decide +kernel
theorem dX10_shortest_29 : decode cX10_shortest 29 = .ok (.iconst (-1), 1) := by decide +kernel
theorem dX10_shortest_30 : decode cX10_shortest 30 = .ok (.if_icmp .eq 7, 3) := by decide +kernel
theorem dX10_shortest_33 : decode cX10_shortest 33 = .ok (.iload_n 1, 1) := by decide +kernel
theorem dX10_shortest_34 : decode cX10_shortest 34 = .ok (.ifCond .ne 6, 3) := by decide +kernel
theorem dX10_shortest_37 : decode cX10_shortest 37 = .ok (.iload_n 2, 1) := by decide +kernel
theorem dX10_shortest_38 : decode cX10_shortest 38 = .ok (.i2l, 1) := by decide +kernel
theorem dX10_shortest_39 : decode cX10_shortest 39 = .ok (.lreturn, 1) := by decide +kernel
theorem dX10_shortest_40 : decode cX10_shortest 40 = .ok (.aload_n 0, 1) := by decide +kernel
theorem dX10_shortest_41 : decode cX10_shortest 41 = .ok (.getfield 48, 3) := by decide +kernel
theorem dX10_shortest_44 : decode cX10_shortest 44 = .ok (.aload_n 0, 1) := by decide +kernel
theorem dX10_shortest_45 : decode cX10_shortest 45 = .ok (.getfield 20, 3) := by decide +kernel
theorem dX10_shortest_48 : decode cX10_shortest 48 = .ok (.iload_n 2, 1) := by decide +kernel
theorem dX10_shortest_49 : decode cX10_shortest 49 = .ok (.invokevirtual 193, 3) := by decide +kernel
theorem dX10_shortest_52 : decode cX10_shortest 52 = .ok (.aload_n 0, 1) := by decide +kernel
theorem dX10_shortest_53 : decode cX10_shortest 53 = .ok (.iload_n 2, 1) := by decide +kernel
theorem dX10_shortest_54 : decode cX10_shortest 54 = .ok (.invokevirtual 238, 3) := by decide +kernel
theorem dX10_shortest_57 : decode cX10_shortest 57 = .ok (.istore_n 3, 1) := by decide +kernel
theorem dX10_shortest_58 : decode cX10_shortest 58 = .ok (.iload_n 1, 1) := by decide +kernel
theorem dX10_shortest_59 : decode cX10_shortest 59 = .ok (.iconst 2, 1) := by decide +kernel
theorem dX10_shortest_60 : decode cX10_shortest 60 = .ok (.if_icmp .ne 14, 3) := by decide +kernel
theorem dX10_shortest_63 : decode cX10_shortest 63 = .ok (.aload_n 0, 1) := by decide +kernel
theorem dX10_shortest_64 : decode cX10_shortest 64 = .ok (.getfield 48, 3) := by decide +kernel
theorem dX10_shortest_67 : decode cX10_shortest 67 = .ok (.getfield 216, 3) := by decide +kernel
theorem dX10_shortest_70 : decode cX10_shortest 70 = .ok (.iload_n 3, 1) := by decide +kernel
theorem dX10_shortest_71 : decode cX10_shortest 71 = .ok (.iaload, 1) := by decide +kernel
theorem dX10_shortest_72 : decode cX10_shortest 72 = .ok (.i2l, 1) := by decide +kernel
theorem dX10_shortest_73 : decode cX10_shortest 73 = .ok (.lreturn, 1) := by decide +kernel
theorem dX10_shortest_74 : decode cX10_shortest 74 = .ok (.iload_n 1, 1) := by decide +kernel
theorem dX10_shortest_75 : decode cX10_shortest 75 = .ok (.iconst 1, 1) := by decide +kernel
theorem dX10_shortest_76 : decode cX10_shortest 76 = .ok (.if_icmp .ne 15, 3) := by decide +kernel
theorem dX10_shortest_79 : decode cX10_shortest 79 = .ok (.aload_n 0, 1) := by decide +kernel
theorem dX10_shortest_80 : decode cX10_shortest 80 = .ok (.getfield 48, 3) := by decide +kernel
theorem dX10_shortest_83 : decode cX10_shortest 83 = .ok (.getfield 200, 3) := by decide +kernel
theorem dX10_shortest_86 : decode cX10_shortest 86 = .ok (.iload_n 3, 1) := by decide +kernel
theorem dX10_shortest_87 : decode cX10_shortest 87 = .ok (.laload, 1) := by decide +kernel
theorem dX10_shortest_88 : decode cX10_shortest 88 = .ok (.goto 19, 3) := by decide +kernel
theorem dX10_shortest_91 : decode cX10_shortest 91 = .ok (.aload_n 0, 1) := by decide +kernel
theorem dX10_shortest_92 : decode cX10_shortest 92 = .ok (.getfield 30, 3) := by decide +kernel
theorem dX10_shortest_95 : decode cX10_shortest 95 = .ok (.aload_n 0, 1) := by decide +kernel
theorem dX10_shortest_96 : decode cX10_shortest 96 = .ok (.getfield 48, 3) := by decide +kernel
theorem dX10_shortest_99 : decode cX10_shortest 99 = .ok (.getfield 200, 3) := by decide +kernel
theorem dX10_shortest_102 : decode cX10_shortest 102 = .ok (.iload_n 3, 1) := by decide +kernel
theorem dX10_shortest_103 : decode cX10_shortest 103 = .ok (.laload, 1) := by decide +kernel
theorem dX10_shortest_104 : decode cX10_shortest 104 = .ok (.invokevirtual 206, 3) := by decide +kernel
theorem dX10_shortest_107 : decode cX10_shortest 107 = .ok (.invokestatic 128, 3) := by decide +kernel
theorem dX10_shortest_110 : decode cX10_shortest 110 = .ok (.lreturn, 1) := by decide +kernel
theorem dX10_leastBroken_0 : decode cX10_leastBroken 0 = .ok (.aload_n 0, 1) := by decide +kernel
theorem dX10_leastBroken_1 : decode cX10_leastBroken 1 = .ok (.getfield 20, 3) := by decide +kernel
theorem dX10_leastBroken_4 : decode cX10_leastBroken 4 = .ok (.iload_n 1, 1) := by decide +kernel
theorem dX10_leastBroken_5 : decode cX10_leastBroken 5 = .ok (.aload_n 0, 1) := by decide +kernel
theorem dX10_leastBroken_6 : decode cX10_leastBroken 6 = .ok (.getfield 25, 3) := by decide +kernel
theorem dX10_leastBroken_9 : decode cX10_leastBroken 9 = .ok (.getfield 177, 3) := by decide +kernel
theorem dX10_leastBroken_12 : decode cX10_leastBroken 12 = .ok (.invokevirtual 223, 3) := by decide +kernel
theorem dX10_leastBroken_15 : decode cX10_leastBroken 15 = .ok (.istore_n 2, 1) := by decide +kernel
theorem dX10_leastBroken_16 : decode cX10_leastBroken 16 = .ok (.iconst 0, 1) := by decide +kernel
theorem dX10_leastBroken_17 : decode cX10_leastBroken 17 = .ok (.istore_n 3, 1) := by decide +kernel
theorem dX10_leastBroken_18 : decode cX10_leastBroken 18 = .ok (.iload_n 3, 1) := by decide +kernel
theorem dX10_leastBroken_19 : decode cX10_leastBroken 19 = .ok (.aload_n 0, 1) := by decide +kernel
theorem dX10_leastBroken_20 : decode cX10_leastBroken 20 = .ok (.getfield 48, 3) := by decide +kernel
theorem dX10_leastBroken_23 : decode cX10_leastBroken 23 = .ok (.getfield 197, 3) := by decide +kernel
theorem dX10_leastBroken_26 : decode cX10_leastBroken 26 = .ok (.iconst 1, 1) := by decide +kernel
theorem dX10_leastBroken_27 : decode cX10_leastBroken 27 = .ok (.isub, 1) := by decide +kernel
theorem dX10_leastBroken_28 : decode cX10_leastBroken 28 = .ok (.if_icmp .ge 30, 3) := by decide +kernel
theorem dX10_leastBroken_31 : decode cX10_leastBroken 31 = .ok (.aload_n 0, 1) := by decide +kernel
theorem dX10_leastBroken_32 : decode cX10_leastBroken 32 = .ok (.getfield 12, 3) := by decide +kernel
theorem dX10_leastBroken_35 : decode cX10_leastBroken 35 = .ok (.aload_n 0, 1) := by decide +kernel
theorem dX10_leastBroken_36 : decode cX10_leastBroken 36 = .ok (.getfield 48, 3) := by decide +kernel
theorem dX10_leastBroken_39 : decode cX10_leastBroken 39 = .ok (.getfield 216, 3) := by decide +kernel
theorem dX10_leastBroken_42 : decode cX10_leastBroken 42 = .ok (.iload_n 3, 1) := by decide +kernel
theorem dX10_leastBroken_43 : decode cX10_leastBroken 43 = .ok (.iaload, 1) := by decide +kernel
theorem dX10_leastBroken_44 : decode cX10_leastBroken 44 = .ok (.invokevirtual 220, 3) := by decide +kernel
theorem dX10_leastBroken_47 : decode cX10_leastBroken 47 = .ok (.iload_n 2, 1) := by decide +kernel
theorem dX10_leastBroken_48 : decode cX10_leastBroken 48 = .ok (.iand, 1) := by decide +kernel
theorem dX10_leastBroken_49 : decode cX10_leastBroken 49 = .ok (.ifCond .ne 9, 3) := by decide +kernel
theorem dX10_leastBroken_52 : decode cX10_leastBroken 52 = .ok (.iinc 3 1, 3) := by decide +kernel
theorem dX10_leastBroken_55 : decode cX10_leastBroken 55 = .ok (.goto (-37), 3) := by decide +kernel
theorem dX10_leastBroken_58 : decode cX10_leastBroken 58 = .ok (.iload_n 3, 1) := by decide +kernel
theorem dX10_leastBroken_59 : decode cX10_leastBroken 59 = .ok (.ireturn, 1) := by decide +kernel
theorem dX10_cost_0 : decode cX10_cost 0 = .ok (.iload_n 1, 1) := by decide +kernel
theorem dX10_cost_1 : decode cX10_cost 1 = .ok (.ifCond .eq 11, 3) := by decide +kernel
theorem dX10_cost_4 : decode cX10_cost 4 = .ok (.iload_n 1, 1) := by decide +kernel
theorem dX10_cost_5 : decode cX10_cost 5 = .ok (.iconst 1, 1) := by decide +kernel
theorem dX10_cost_6 : decode cX10_cost 6 = .ok (.if_icmp .eq 6, 3) := by decide +kernel
theorem dX10_cost_9 : decode cX10_cost 9 = .ok (.bipush (-101), 2) := by decide +kernel
theorem dX10_cost_11 : decode cX10_cost 11 = .ok (.ireturn, 1) := by decide +kernel
theorem dX10_cost_12 : decode cX10_cost 12 = .ok (.iload_n 2, 1) := by decide +kernel
theorem dX10_cost_13 : decode cX10_cost 13 = .ok (.iconst 1, 1) := by decide +kernel
theorem dX10_cost_14 : decode cX10_cost 14 = .ok (.if_icmp .lt 18, 3) := by decide +kernel
theorem dX10_cost_17 : decode cX10_cost 17 = .ok (.iload_n 2, 1) := by decide +kernel
theorem dX10_cost_18 : decode cX10_cost 18 = .ok (.iload_n 1, 1) := by decide +kernel
theorem dX10_cost_19 : decode cX10_cost 19 = .ok (.ifCond .ne 8, 3) := by decide +kernel
theorem dX10_cost_22 : decode cX10_cost 22 = .ok (.bipush 9, 2) := by decide +kernel
theorem dX10_cost_24 : decode cX10_cost 24 = .ok (.goto 5, 3) := by decide +kernel
theorem dX10_cost_27 : decode cX10_cost 27 = .ok (.bipush 99, 2) := by decide +kernel
theorem dX10_cost_29 : decode cX10_cost 29 = .ok (.if_icmp .le 6, 3) := by decide +kernel
theorem dX10_cost_32 : decode cX10_cost 32 = .ok (.bipush (-102), 2) := by decide +kernel
theorem dX10_cost_34 : decode cX10_cost 34 = .ok (.ireturn, 1) := by decide +kernel
theorem dX10_cost_35 : decode cX10_cost 35 = .ok (.iload_n 1, 1) := by decide +kernel
theorem dX10_cost_36 : decode cX10_cost 36 = .ok (.ifCond .ne 10, 3) := by decide +kernel
theorem dX10_cost_39 : decode cX10_cost 39 = .ok (.aload_n 0, 1) := by decide +kernel
theorem dX10_cost_40 : decode cX10_cost 40 = .ok (.getfield 59, 3) := by decide +kernel
theorem dX10_cost_43 : decode cX10_cost 43 = .ok (.goto 7, 3) := by decide +kernel
theorem dX10_cost_46 : decode cX10_cost 46 = .ok (.aload_n 0, 1) := by decide +kernel
theorem dX10_cost_47 : decode cX10_cost 47 = .ok (.getfield 63, 3) := by decide +kernel
theorem dX10_cost_50 : decode cX10_cost 50 = .ok (.istore_n 3, 1) := by decide +kernel
theorem dX10_cost_51 : decode cX10_cost 51 = .ok (.iload_n 1, 1) := by decide +kernel
theorem dX10_cost_52 : decode cX10_cost 52 = .ok (.ifCond .ne 11, 3) := by decide +kernel
theorem dX10_cost_55 : decode cX10_cost 55 = .ok (.aload_n 0, 1) := by decide +kernel
theorem dX10_cost_56 : decode cX10_cost 56 = .ok (.iload_n 2, 1) := by decide +kernel
theorem dX10_cost_57 : decode cX10_cost 57 = .ok (.putfield 59, 3) := by decide +kernel
theorem dX10_cost_60 : decode cX10_cost 60 = .ok (.goto 8, 3) := by decide +kernel
theorem dX10_cost_63 : decode cX10_cost 63 = .ok (.aload_n 0, 1) := by decide +kernel
theorem dX10_cost_64 : decode cX10_cost 64 = .ok (.iload_n 2, 1) := by decide +kernel
theorem dX10_cost_65 : decode cX10_cost 65 = .ok (.putfield 63, 3) := by decide +kernel
theorem dX10_cost_68 : decode cX10_cost 68 = .ok (.iload_n 3, 1) := by decide +kernel
theorem dX10_cost_69 : decode cX10_cost 69 = .ok (.ireturn, 1) := by decide +kernel
theorem dX10_fewest_0 : decode cX10_fewest 0 = .ok (.iload_n 1, 1) := by decide +kernel
theorem dX10_fewest_1 : decode cX10_fewest 1 = .ok (.bipush 10, 2) := by decide +kernel
theorem dX10_fewest_3 : decode cX10_fewest 3 = .ok (.isub, 1) := by decide +kernel
theorem dX10_fewest_4 : decode cX10_fewest 4 = .ok (.istore_n 2, 1) := by decide +kernel
theorem dX10_fewest_5 : decode cX10_fewest 5 = .ok (.iload_n 1, 1) := by decide +kernel
theorem dX10_fewest_6 : decode cX10_fewest 6 = .ok (.bipush 10, 2) := by decide +kernel
theorem dX10_fewest_8 : decode cX10_fewest 8 = .ok (.if_icmp .lt 13, 3) := by decide +kernel
theorem dX10_fewest_11 : decode cX10_fewest 11 = .ok (.iload_n 2, 1) := by decide +kernel
theorem dX10_fewest_12 : decode cX10_fewest 12 = .ok (.bipush 7, 2) := by decide +kernel
theorem dX10_fewest_14 : decode cX10_fewest 14 = .ok (.if_icmp .ge 7, 3) := by decide +kernel
theorem dX10_fewest_17 : decode cX10_fewest 17 = .ok (.iconst 1, 1) := by decide +kernel
theorem dX10_fewest_18 : decode cX10_fewest 18 = .ok (.goto 4, 3) := by decide +kernel
theorem dX10_fewest_21 : decode cX10_fewest 21 = .ok (.iconst 0, 1) := by decide +kernel
theorem dX10_fewest_22 : decode cX10_fewest 22 = .ok (.istore_n 3, 1) := by decide +kernel
theorem dX10_fewest_23 : decode cX10_fewest 23 = .ok (.iload_n 1, 1) := by decide +kernel
theorem dX10_fewest_24 : decode cX10_fewest 24 = .ok (.ifCond .eq 15, 3) := by decide +kernel
theorem dX10_fewest_27 : decode cX10_fewest 27 = .ok (.iload_n 1, 1) := by decide +kernel
theorem dX10_fewest_28 : decode cX10_fewest 28 = .ok (.iconst 1, 1) := by decide +kernel
theorem dX10_fewest_29 : decode cX10_fewest 29 = .ok (.if_icmp .eq 10, 3) := by decide +kernel
theorem dX10_fewest_32 : decode cX10_fewest 32 = .ok (.iload_n 3, 1) := by decide +kernel
theorem dX10_fewest_33 : decode cX10_fewest 33 = .ok (.ifCond .ne 6, 3) := by decide +kernel
theorem dX10_fewest_36 : decode cX10_fewest 36 = .ok (.bipush (-102), 2) := by decide +kernel
theorem dX10_fewest_38 : decode cX10_fewest 38 = .ok (.ireturn, 1) := by decide +kernel
theorem dX10_fewest_39 : decode cX10_fewest 39 = .ok (.aload_n 0, 1) := by decide +kernel
theorem dX10_fewest_40 : decode cX10_fewest 40 = .ok (.getfield 20, 3) := by decide +kernel
theorem dX10_fewest_43 : decode cX10_fewest 43 = .ok (.getfield 102, 3) := by decide +kernel
theorem dX10_fewest_46 : decode cX10_fewest 46 = .ok (.bipush 8, 2) := by decide +kernel
theorem dX10_fewest_48 : decode cX10_fewest 48 = .ok (.if_icmp .gt 12, 3) := by decide +kernel
theorem dX10_fewest_51 : decode cX10_fewest 51 = .ok (.aload_n 0, 1) := by decide +kernel
theorem dX10_fewest_52 : decode cX10_fewest 52 = .ok (.getfield 66, 3) := by decide +kernel
theorem dX10_fewest_55 : decode cX10_fewest 55 = .ok (.bipush 12, 2) := by decide +kernel
theorem dX10_fewest_57 : decode cX10_fewest 57 = .ok (.if_icmp .lt 6, 3) := by decide +kernel
theorem dX10_fewest_60 : decode cX10_fewest 60 = .ok (.bipush (-103), 2) := by decide +kernel
theorem dX10_fewest_62 : decode cX10_fewest 62 = .ok (.ireturn, 1) := by decide +kernel
theorem dX10_fewest_63 : decode cX10_fewest 63 = .ok (.aload_n 0, 1) := by decide +kernel
theorem dX10_fewest_64 : decode cX10_fewest 64 = .ok (.dup, 1) := by decide +kernel
theorem dX10_fewest_65 : decode cX10_fewest 65 = .ok (.getfield 66, 3) := by decide +kernel
theorem dX10_fewest_68 : decode cX10_fewest 68 = .ok (.iconst 1, 1) := by decide +kernel
theorem dX10_fewest_69 : decode cX10_fewest 69 = .ok (.iadd, 1) := by decide +kernel
theorem dX10_fewest_70 : decode cX10_fewest 70 = .ok (.putfield 66, 3) := by decide +kernel
theorem dX10_fewest_73 : decode cX10_fewest 73 = .ok (.aload_n 0, 1) := by decide +kernel
theorem dX10_fewest_74 : decode cX10_fewest 74 = .ok (.getfield 55, 3) := by decide +kernel
theorem dX10_fewest_77 : decode cX10_fewest 77 = .ok (.aload_n 0, 1) := by decide +kernel
theorem dX10_fewest_78 : decode cX10_fewest 78 = .ok (.getfield 20, 3) := by decide +kernel
theorem dX10_fewest_81 : decode cX10_fewest 81 = .ok (.aload_n 0, 1) := by decide +kernel
theorem dX10_fewest_82 : decode cX10_fewest 82 = .ok (.getfield 12, 3) := by decide +kernel
theorem dX10_fewest_85 : decode cX10_fewest 85 = .ok (.invokevirtual 241, 3) := by decide +kernel
theorem dX10_fewest_88 : decode cX10_fewest 88 = .ok (.aload_n 0, 1) := by decide +kernel
theorem dX10_fewest_89 : decode cX10_fewest 89 = .ok (.getfield 55, 3) := by decide +kernel
theorem dX10_fewest_92 : decode cX10_fewest 92 = .ok (.aload_n 0, 1) := by decide +kernel
theorem dX10_fewest_93 : decode cX10_fewest 93 = .ok (.getfield 20, 3) := by decide +kernel
theorem dX10_fewest_96 : decode cX10_fewest 96 = .ok (.aload_n 0, 1) := by decide +kernel
theorem dX10_fewest_97 : decode cX10_fewest 97 = .ok (.getfield 25, 3) := by decide +kernel
theorem dX10_fewest_100 : decode cX10_fewest 100 = .ok (.getfield 177, 3) := by decide +kernel
theorem dX10_fewest_103 : decode cX10_fewest 103 = .ok (.aload_n 0, 1) := by decide +kernel
theorem dX10_fewest_104 : decode cX10_fewest 104 = .ok (.getfield 59, 3) := by decide +kernel
theorem dX10_fewest_107 : decode cX10_fewest 107 = .ok (.aload_n 0, 1) := by decide +kernel
theorem dX10_fewest_108 : decode cX10_fewest 108 = .ok (.getfield 63, 3) := by decide +kernel
theorem dX10_fewest_111 : decode cX10_fewest 111 = .ok (.invokevirtual 245, 3) := by decide +kernel
theorem dX10_fewest_114 : decode cX10_fewest 114 = .ok (.iload_n 3, 1) := by decide +kernel
theorem dX10_fewest_115 : decode cX10_fewest 115 = .ok (.ifCond .eq 12, 3) := by decide +kernel
theorem dX10_fewest_118 : decode cX10_fewest 118 = .ok (.aload_n 0, 1) := by decide +kernel
theorem dX10_fewest_119 : decode cX10_fewest 119 = .ok (.getfield 55, 3) := by decide +kernel
theorem dX10_fewest_122 : decode cX10_fewest 122 = .ok (.iload_n 2, 1) := by decide +kernel
theorem dX10_fewest_123 : decode cX10_fewest 123 = .ok (.invokevirtual 249, 3) := by decide +kernel
theorem dX10_fewest_126 : decode cX10_fewest 126 = .ok (.ireturn, 1) := by decide +kernel
theorem dX10_fewest_127 : decode cX10_fewest 127 = .ok (.iload_n 1, 1) := by decide +kernel
theorem dX10_fewest_128 : decode cX10_fewest 128 = .ok (.ifCond .ne 13, 3) := by decide +kernel
theorem dX10_fewest_131 : decode cX10_fewest 131 = .ok (.aload_n 0, 1) := by decide +kernel
theorem dX10_fewest_132 : decode cX10_fewest 132 = .ok (.getfield 55, 3) := by decide +kernel
theorem dX10_fewest_135 : decode cX10_fewest 135 = .ok (.getfield 252, 3) := by decide +kernel
theorem dX10_fewest_138 : decode cX10_fewest 138 = .ok (.goto 10, 3) := by decide +kernel
theorem dX10_fewest_141 : decode cX10_fewest 141 = .ok (.aload_n 0, 1) := by decide +kernel
theorem dX10_fewest_142 : decode cX10_fewest 142 = .ok (.getfield 55, 3) := by decide +kernel
theorem dX10_fewest_145 : decode cX10_fewest 145 = .ok (.getfield 255, 3) := by decide +kernel
theorem dX10_fewest_148 : decode cX10_fewest 148 = .ok (.ireturn, 1) := by decide +kernel
theorem dX10_needless_0 : decode cX10_needless 0 = .ok (.aload_n 0, 1) := by decide +kernel
theorem dX10_needless_1 : decode cX10_needless 1 = .ok (.getfield 20, 3) := by decide +kernel
theorem dX10_needless_4 : decode cX10_needless 4 = .ok (.invokevirtual 120, 3) := by decide +kernel
theorem dX10_needless_7 : decode cX10_needless 7 = .ok (.istore_n 1, 1) := by decide +kernel
theorem dX10_needless_8 : decode cX10_needless 8 = .ok (.aload_n 0, 1) := by decide +kernel
theorem dX10_needless_9 : decode cX10_needless 9 = .ok (.getfield 20, 3) := by decide +kernel
theorem dX10_needless_12 : decode cX10_needless 12 = .ok (.iload_n 1, 1) := by decide +kernel
theorem dX10_needless_13 : decode cX10_needless 13 = .ok (.invokevirtual 124, 3) := by decide +kernel
theorem dX10_needless_16 : decode cX10_needless 16 = .ok (.lstore_n 2, 1) := by decide +kernel
theorem dX10_needless_17 : decode cX10_needless 17 = .ok (.iconst 0, 1) := by decide +kernel
theorem dX10_needless_18 : decode cX10_needless 18 = .ok (.istore 4, 2) := by decide +kernel
theorem dX10_needless_20 : decode cX10_needless 20 = .ok (.iconst 0, 1) := by decide +kernel
theorem dX10_needless_21 : decode cX10_needless 21 = .ok (.istore 5, 2) := by decide +kernel
theorem dX10_needless_23 : decode cX10_needless 23 = .ok (.iload 5, 2) := by decide +kernel
theorem dX10_needless_25 : decode cX10_needless 25 = .ok (.aload_n 0, 1) := by decide +kernel
theorem dX10_needless_26 : decode cX10_needless 26 = .ok (.getfield 20, 3) := by decide +kernel
theorem dX10_needless_29 : decode cX10_needless 29 = .ok (.getfield 102, 3) := by decide +kernel
theorem dX10_needless_32 : decode cX10_needless 32 = .ok (.if_icmp .ge 64, 3) := by decide +kernel
theorem dX10_needless_35 : decode cX10_needless 35 = .ok (.iload_n 1, 1) := by decide +kernel
theorem dX10_needless_36 : decode cX10_needless 36 = .ok (.iconst 1, 1) := by decide +kernel
theorem dX10_needless_37 : decode cX10_needless 37 = .ok (.iload 5, 2) := by decide +kernel
theorem dX10_needless_39 : decode cX10_needless 39 = .ok (.ishl, 1) := by decide +kernel
theorem dX10_needless_40 : decode cX10_needless 40 = .ok (.iand, 1) := by decide +kernel
theorem dX10_needless_41 : decode cX10_needless 41 = .ok (.istore 6, 2) := by decide +kernel
theorem dX10_needless_43 : decode cX10_needless 43 = .ok (.iload_n 1, 1) := by decide +kernel
theorem dX10_needless_44 : decode cX10_needless 44 = .ok (.iload 6, 2) := by decide +kernel
theorem dX10_needless_46 : decode cX10_needless 46 = .ok (.iconst (-1), 1) := by decide +kernel
theorem dX10_needless_47 : decode cX10_needless 47 = .ok (.ixor, 1) := by decide +kernel
theorem dX10_needless_48 : decode cX10_needless 48 = .ok (.iand, 1) := by decide +kernel
theorem dX10_needless_49 : decode cX10_needless 49 = .ok (.istore 7, 2) := by decide +kernel
theorem dX10_needless_51 : decode cX10_needless 51 = .ok (.iload 6, 2) := by decide +kernel
theorem dX10_needless_53 : decode cX10_needless 53 = .ok (.ifCond .eq 37, 3) := by decide +kernel
theorem dX10_needless_56 : decode cX10_needless 56 = .ok (.aload_n 0, 1) := by decide +kernel
theorem dX10_needless_57 : decode cX10_needless 57 = .ok (.getfield 20, 3) := by decide +kernel
theorem dX10_needless_60 : decode cX10_needless 60 = .ok (.iload 7, 2) := by decide +kernel
theorem dX10_needless_62 : decode cX10_needless 62 = .ok (.invokevirtual 124, 3) := by decide +kernel
theorem dX10_needless_65 : decode cX10_needless 65 = .ok (.lload_n 2, 1) := by decide +kernel
theorem dX10_needless_66 : decode cX10_needless 66 = .ok (.lcmp, 1) := by decide +kernel
theorem dX10_needless_67 : decode cX10_needless 67 = .ok (.ifCond .ne 23, 3) := by decide +kernel
theorem dX10_needless_70 : decode cX10_needless 70 = .ok (.aload_n 0, 1) := by decide +kernel
theorem dX10_needless_71 : decode cX10_needless 71 = .ok (.getfield 12, 3) := by decide +kernel
theorem dX10_needless_74 : decode cX10_needless 74 = .ok (.iload 7, 2) := by decide +kernel
theorem dX10_needless_76 : decode cX10_needless 76 = .ok (.invokevirtual 235, 3) := by decide +kernel
theorem dX10_needless_79 : decode cX10_needless 79 = .ok (.iconst (-1), 1) := by decide +kernel
theorem dX10_needless_80 : decode cX10_needless 80 = .ok (.if_icmp .ne 10, 3) := by decide +kernel
theorem dX10_needless_83 : decode cX10_needless 83 = .ok (.iload 4, 2) := by decide +kernel
theorem dX10_needless_85 : decode cX10_needless 85 = .ok (.iload 6, 2) := by decide +kernel
theorem dX10_needless_87 : decode cX10_needless 87 = .ok (.ior, 1) := by decide +kernel
theorem dX10_needless_88 : decode cX10_needless 88 = .ok (.istore 4, 2) := by decide +kernel
theorem dX10_needless_90 : decode cX10_needless 90 = .ok (.iinc 5 1, 3) := by decide +kernel
theorem dX10_needless_93 : decode cX10_needless 93 = .ok (.goto (-70), 3) := by decide +kernel
theorem dX10_needless_96 : decode cX10_needless 96 = .ok (.iload 4, 2) := by decide +kernel
theorem dX10_needless_98 : decode cX10_needless 98 = .ok (.ireturn, 1) := by decide +kernel
theorem dX10_order_0 : decode cX10_order 0 = .ok (.aload_n 0, 1) := by decide +kernel
theorem dX10_order_1 : decode cX10_order 1 = .ok (.getfield 25, 3) := by decide +kernel
theorem dX10_order_4 : decode cX10_order 4 = .ok (.iload_n 1, 1) := by decide +kernel
theorem dX10_order_5 : decode cX10_order 5 = .ok (.invokevirtual 97, 3) := by decide +kernel
theorem dX10_order_8 : decode cX10_order 8 = .ok (.ifCond .eq 30, 3) := by decide +kernel
theorem dX10_order_11 : decode cX10_order 11 = .ok (.aload_n 0, 1) := by decide +kernel
theorem dX10_order_12 : decode cX10_order 12 = .ok (.getfield 20, 3) := by decide +kernel
theorem dX10_order_15 : decode cX10_order 15 = .ok (.iload_n 2, 1) := by decide +kernel
theorem dX10_order_16 : decode cX10_order 16 = .ok (.invokevirtual 258, 3) := by decide +kernel
theorem dX10_order_19 : decode cX10_order 19 = .ok (.ifCond .eq 19, 3) := by decide +kernel
theorem dX10_order_22 : decode cX10_order 22 = .ok (.aload_n 0, 1) := by decide +kernel
theorem dX10_order_23 : decode cX10_order 23 = .ok (.getfield 20, 3) := by decide +kernel
theorem dX10_order_26 : decode cX10_order 26 = .ok (.iload_n 3, 1) := by decide +kernel
theorem dX10_order_27 : decode cX10_order 27 = .ok (.invokevirtual 258, 3) := by decide +kernel
theorem dX10_order_30 : decode cX10_order 30 = .ok (.ifCond .eq 8, 3) := by decide +kernel
theorem dX10_order_33 : decode cX10_order 33 = .ok (.iload_n 2, 1) := by decide +kernel
theorem dX10_order_34 : decode cX10_order 34 = .ok (.iload_n 3, 1) := by decide +kernel
theorem dX10_order_35 : decode cX10_order 35 = .ok (.if_icmp .ne 6, 3) := by decide +kernel
theorem dX10_order_38 : decode cX10_order 38 = .ok (.bipush (-101), 2) := by decide +kernel
theorem dX10_order_40 : decode cX10_order 40 = .ok (.ireturn, 1) := by decide +kernel
theorem dX10_order_41 : decode cX10_order 41 = .ok (.aload_n 0, 1) := by decide +kernel
theorem dX10_order_42 : decode cX10_order 42 = .ok (.getfield 20, 3) := by decide +kernel
theorem dX10_order_45 : decode cX10_order 45 = .ok (.iload_n 2, 1) := by decide +kernel
theorem dX10_order_46 : decode cX10_order 46 = .ok (.invokevirtual 261, 3) := by decide +kernel
theorem dX10_order_49 : decode cX10_order 49 = .ok (.istore 4, 2) := by decide +kernel
theorem dX10_order_51 : decode cX10_order 51 = .ok (.iload 4, 2) := by decide +kernel
theorem dX10_order_53 : decode cX10_order 53 = .ok (.aload_n 0, 1) := by decide +kernel
theorem dX10_order_54 : decode cX10_order 54 = .ok (.getfield 20, 3) := by decide +kernel
theorem dX10_order_57 : decode cX10_order 57 = .ok (.iload_n 3, 1) := by decide +kernel
theorem dX10_order_58 : decode cX10_order 58 = .ok (.invokevirtual 261, 3) := by decide +kernel
theorem dX10_order_61 : decode cX10_order 61 = .ok (.if_icmp .ne 22, 3) := by decide +kernel
theorem dX10_order_64 : decode cX10_order 64 = .ok (.iload 4, 2) := by decide +kernel
theorem dX10_order_66 : decode cX10_order 66 = .ok (.aload_n 0, 1) := by decide +kernel
theorem dX10_order_67 : decode cX10_order 67 = .ok (.getfield 20, 3) := by decide +kernel
theorem dX10_order_70 : decode cX10_order 70 = .ok (.aload_n 0, 1) := by decide +kernel
theorem dX10_order_71 : decode cX10_order 71 = .ok (.getfield 20, 3) := by decide +kernel
theorem dX10_order_74 : decode cX10_order 74 = .ok (.getfield 102, 3) := by decide +kernel
theorem dX10_order_77 : decode cX10_order 77 = .ok (.invokevirtual 264, 3) := by decide +kernel
theorem dX10_order_80 : decode cX10_order 80 = .ok (.if_icmp .ge 6, 3) := by decide +kernel
theorem dX10_order_83 : decode cX10_order 83 = .ok (.bipush (-103), 2) := by decide +kernel
theorem dX10_order_85 : decode cX10_order 85 = .ok (.ireturn, 1) := by decide +kernel
theorem dX10_order_86 : decode cX10_order 86 = .ok (.aload_n 0, 1) := by decide +kernel
theorem dX10_order_87 : decode cX10_order 87 = .ok (.getfield 20, 3) := by decide +kernel
theorem dX10_order_90 : decode cX10_order 90 = .ok (.iconst 0, 1) := by decide +kernel
theorem dX10_order_91 : decode cX10_order 91 = .ok (.iload 4, 2) := by decide +kernel
theorem dX10_order_93 : decode cX10_order 93 = .ok (.invokevirtual 267, 3) := by decide +kernel
theorem dX10_order_96 : decode cX10_order 96 = .ok (.iconst 1, 1) := by decide +kernel
theorem dX10_order_97 : decode cX10_order 97 = .ok (.iload_n 3, 1) := by decide +kernel
theorem dX10_order_98 : decode cX10_order 98 = .ok (.ishl, 1) := by decide +kernel
theorem dX10_order_99 : decode cX10_order 99 = .ok (.ior, 1) := by decide +kernel
theorem dX10_order_100 : decode cX10_order 100 = .ok (.istore 5, 2) := by decide +kernel
theorem dX10_order_102 : decode cX10_order 102 = .ok (.aload_n 0, 1) := by decide +kernel
theorem dX10_order_103 : decode cX10_order 103 = .ok (.getfield 20, 3) := by decide +kernel
theorem dX10_order_106 : decode cX10_order 106 = .ok (.iload 4, 2) := by decide +kernel
theorem dX10_order_108 : decode cX10_order 108 = .ok (.aload_n 0, 1) := by decide +kernel
theorem dX10_order_109 : decode cX10_order 109 = .ok (.getfield 20, 3) := by decide +kernel
theorem dX10_order_112 : decode cX10_order 112 = .ok (.iload_n 2, 1) := by decide +kernel
theorem dX10_order_113 : decode cX10_order 113 = .ok (.invokevirtual 270, 3) := by decide +kernel
theorem dX10_order_116 : decode cX10_order 116 = .ok (.invokevirtual 267, 3) := by decide +kernel
theorem dX10_order_119 : decode cX10_order 119 = .ok (.iconst 1, 1) := by decide +kernel
theorem dX10_order_120 : decode cX10_order 120 = .ok (.iload_n 2, 1) := by decide +kernel
theorem dX10_order_121 : decode cX10_order 121 = .ok (.ishl, 1) := by decide +kernel
theorem dX10_order_122 : decode cX10_order 122 = .ok (.iconst 1, 1) := by decide +kernel
theorem dX10_order_123 : decode cX10_order 123 = .ok (.iload_n 3, 1) := by decide +kernel
theorem dX10_order_124 : decode cX10_order 124 = .ok (.ishl, 1) := by decide +kernel
theorem dX10_order_125 : decode cX10_order 125 = .ok (.ior, 1) := by decide +kernel
theorem dX10_order_126 : decode cX10_order 126 = .ok (.iconst (-1), 1) := by decide +kernel
theorem dX10_order_127 : decode cX10_order 127 = .ok (.ixor, 1) := by decide +kernel
theorem dX10_order_128 : decode cX10_order 128 = .ok (.iand, 1) := by decide +kernel
theorem dX10_order_129 : decode cX10_order 129 = .ok (.istore 6, 2) := by decide +kernel
theorem dX10_order_131 : decode cX10_order 131 = .ok (.iconst 1, 1) := by decide +kernel
theorem dX10_order_132 : decode cX10_order 132 = .ok (.iload 6, 2) := by decide +kernel
theorem dX10_order_134 : decode cX10_order 134 = .ok (.invokestatic 273, 3) := by decide +kernel
theorem dX10_order_137 : decode cX10_order 137 = .ok (.ishl, 1) := by decide +kernel
theorem dX10_order_138 : decode cX10_order 138 = .ok (.istore 7, 2) := by decide +kernel
theorem dX10_order_140 : decode cX10_order 140 = .ok (.iconst 0, 1) := by decide +kernel
theorem dX10_order_141 : decode cX10_order 141 = .ok (.istore 8, 2) := by decide +kernel
theorem dX10_order_143 : decode cX10_order 143 = .ok (.iconst 0, 1) := by decide +kernel
theorem dX10_order_144 : decode cX10_order 144 = .ok (.istore 9, 2) := by decide +kernel
theorem dX10_order_146 : decode cX10_order 146 = .ok (.iconst 0, 1) := by decide +kernel
theorem dX10_order_147 : decode cX10_order 147 = .ok (.istore 10, 2) := by decide +kernel
theorem dX10_order_149 : decode cX10_order 149 = .ok (.iload 10, 2) := by decide +kernel
theorem dX10_order_151 : decode cX10_order 151 = .ok (.iload 7, 2) := by decide +kernel
theorem dX10_order_153 : decode cX10_order 153 = .ok (.if_icmp .ge 39, 3) := by decide +kernel
theorem dX10_order_156 : decode cX10_order 156 = .ok (.iload 8, 2) := by decide +kernel
theorem dX10_order_158 : decode cX10_order 158 = .ok (.aload_n 0, 1) := by decide +kernel
theorem dX10_order_159 : decode cX10_order 159 = .ok (.getfield 12, 3) := by decide +kernel
theorem dX10_order_162 : decode cX10_order 162 = .ok (.iload 5, 2) := by decide +kernel
theorem dX10_order_164 : decode cX10_order 164 = .ok (.iload 9, 2) := by decide +kernel
theorem dX10_order_166 : decode cX10_order 166 = .ok (.ior, 1) := by decide +kernel
theorem dX10_order_167 : decode cX10_order 167 = .ok (.invokevirtual 220, 3) := by decide +kernel
theorem dX10_order_170 : decode cX10_order 170 = .ok (.iload_n 1, 1) := by decide +kernel
theorem dX10_order_171 : decode cX10_order 171 = .ok (.ishr, 1) := by decide +kernel
theorem dX10_order_172 : decode cX10_order 172 = .ok (.iconst 1, 1) := by decide +kernel
theorem dX10_order_173 : decode cX10_order 173 = .ok (.iand, 1) := by decide +kernel
theorem dX10_order_174 : decode cX10_order 174 = .ok (.iadd, 1) := by decide +kernel
theorem dX10_order_175 : decode cX10_order 175 = .ok (.istore 8, 2) := by decide +kernel
theorem dX10_order_177 : decode cX10_order 177 = .ok (.iload 9, 2) := by decide +kernel
theorem dX10_order_179 : decode cX10_order 179 = .ok (.iload 6, 2) := by decide +kernel
theorem dX10_order_181 : decode cX10_order 181 = .ok (.invokestatic 278, 3) := by decide +kernel
theorem dX10_order_184 : decode cX10_order 184 = .ok (.istore 9, 2) := by decide +kernel
theorem dX10_order_186 : decode cX10_order 186 = .ok (.iinc 10 1, 3) := by decide +kernel
theorem dX10_order_189 : decode cX10_order 189 = .ok (.goto (-40), 3) := by decide +kernel
theorem dX10_order_192 : decode cX10_order 192 = .ok (.iload 8, 2) := by decide +kernel
theorem dX10_order_194 : decode cX10_order 194 = .ok (.ireturn, 1) := by decide +kernel
theorem dX10_count_0 : decode cX10_count 0 = .ok (.iload_n 1, 1) := by decide +kernel
theorem dX10_count_1 : decode cX10_count 1 = .ok (.tableswitch 99 0 6 #[43, 51, 59, 67, 75, 83, 94], 43) := by decide +kernel
theorem dX10_count_44 : decode cX10_count 44 = .ok (.aload_n 0, 1) := by decide +kernel
theorem dX10_count_45 : decode cX10_count 45 = .ok (.getfield 20, 3) := by decide +kernel
theorem dX10_count_48 : decode cX10_count 48 = .ok (.getfield 102, 3) := by decide +kernel
theorem dX10_count_51 : decode cX10_count 51 = .ok (.ireturn, 1) := by decide +kernel
theorem dX10_count_52 : decode cX10_count 52 = .ok (.aload_n 0, 1) := by decide +kernel
theorem dX10_count_53 : decode cX10_count 53 = .ok (.getfield 25, 3) := by decide +kernel
theorem dX10_count_56 : decode cX10_count 56 = .ok (.getfield 153, 3) := by decide +kernel
theorem dX10_count_59 : decode cX10_count 59 = .ok (.ireturn, 1) := by decide +kernel
theorem dX10_count_60 : decode cX10_count 60 = .ok (.aload_n 0, 1) := by decide +kernel
theorem dX10_count_61 : decode cX10_count 61 = .ok (.getfield 30, 3) := by decide +kernel
theorem dX10_count_64 : decode cX10_count 64 = .ok (.getfield 171, 3) := by decide +kernel
theorem dX10_count_67 : decode cX10_count 67 = .ok (.ireturn, 1) := by decide +kernel
theorem dX10_count_68 : decode cX10_count 68 = .ok (.aload_n 0, 1) := by decide +kernel
theorem dX10_count_69 : decode cX10_count 69 = .ok (.getfield 34, 3) := by decide +kernel
theorem dX10_count_72 : decode cX10_count 72 = .ok (.getfield 140, 3) := by decide +kernel
theorem dX10_count_75 : decode cX10_count 75 = .ok (.ireturn, 1) := by decide +kernel
theorem dX10_count_76 : decode cX10_count 76 = .ok (.aload_n 0, 1) := by decide +kernel
theorem dX10_count_77 : decode cX10_count 77 = .ok (.getfield 20, 3) := by decide +kernel
theorem dX10_count_80 : decode cX10_count 80 = .ok (.invokevirtual 281, 3) := by decide +kernel
theorem dX10_count_83 : decode cX10_count 83 = .ok (.ireturn, 1) := by decide +kernel
theorem dX10_count_84 : decode cX10_count 84 = .ok (.aload_n 0, 1) := by decide +kernel
theorem dX10_count_85 : decode cX10_count 85 = .ok (.getfield 20, 3) := by decide +kernel
theorem dX10_count_88 : decode cX10_count 88 = .ok (.invokevirtual 120, 3) := by decide +kernel
theorem dX10_count_91 : decode cX10_count 91 = .ok (.invokestatic 273, 3) := by decide +kernel
theorem dX10_count_94 : decode cX10_count 94 = .ok (.ireturn, 1) := by decide +kernel
theorem dX10_count_95 : decode cX10_count 95 = .ok (.aload_n 0, 1) := by decide +kernel
theorem dX10_count_96 : decode cX10_count 96 = .ok (.getfield 66, 3) := by decide +kernel
theorem dX10_count_99 : decode cX10_count 99 = .ok (.ireturn, 1) := by decide +kernel
theorem dX10_count_100 : decode cX10_count 100 = .ok (.bipush (-102), 2) := by decide +kernel
theorem dX10_count_102 : decode cX10_count 102 = .ok (.ireturn, 1) := by decide +kernel
theorem dX10_digest_0 : decode cX10_digest 0 = .ok (.aload_n 0, 1) := by decide +kernel
theorem dX10_digest_1 : decode cX10_digest 1 = .ok (.ldc2_w 284, 3) := by decide +kernel
theorem dX10_digest_4 : decode cX10_digest 4 = .ok (.aload_n 0, 1) := by decide +kernel
theorem dX10_digest_5 : decode cX10_digest 5 = .ok (.getfield 20, 3) := by decide +kernel
theorem dX10_digest_8 : decode cX10_digest 8 = .ok (.getfield 76, 3) := by decide +kernel
theorem dX10_digest_11 : decode cX10_digest 11 = .ok (.invokestatic 128, 3) := by decide +kernel
theorem dX10_digest_14 : decode cX10_digest 14 = .ok (.invokestatic 286, 3) := by decide +kernel
theorem dX10_digest_17 : decode cX10_digest 17 = .ok (.invokevirtual 290, 3) := by decide +kernel
theorem dX10_digest_20 : decode cX10_digest 20 = .ok (.lstore_n 1, 1) := by decide +kernel
theorem dX10_digest_21 : decode cX10_digest 21 = .ok (.aload_n 0, 1) := by decide +kernel
theorem dX10_digest_22 : decode cX10_digest 22 = .ok (.getfield 25, 3) := by decide +kernel
theorem dX10_digest_25 : decode cX10_digest 25 = .ok (.aload_n 0, 1) := by decide +kernel
theorem dX10_digest_26 : decode cX10_digest 26 = .ok (.getfield 20, 3) := by decide +kernel
theorem dX10_digest_29 : decode cX10_digest 29 = .ok (.getfield 76, 3) := by decide +kernel
theorem dX10_digest_32 : decode cX10_digest 32 = .ok (.invokevirtual 187, 3) := by decide +kernel
theorem dX10_digest_35 : decode cX10_digest 35 = .ok (.istore_n 3, 1) := by decide +kernel
theorem dX10_digest_36 : decode cX10_digest 36 = .ok (.iconst 0, 1) := by decide +kernel
theorem dX10_digest_37 : decode cX10_digest 37 = .ok (.istore 4, 2) := by decide +kernel
theorem dX10_digest_39 : decode cX10_digest 39 = .ok (.iload 4, 2) := by decide +kernel
theorem dX10_digest_41 : decode cX10_digest 41 = .ok (.aload_n 0, 1) := by decide +kernel
theorem dX10_digest_42 : decode cX10_digest 42 = .ok (.getfield 25, 3) := by decide +kernel
theorem dX10_digest_45 : decode cX10_digest 45 = .ok (.getfield 153, 3) := by decide +kernel
theorem dX10_digest_48 : decode cX10_digest 48 = .ok (.if_icmp .ge 41, 3) := by decide +kernel
theorem dX10_digest_51 : decode cX10_digest 51 = .ok (.lload_n 1, 1) := by decide +kernel
theorem dX10_digest_52 : decode cX10_digest 52 = .ok (.aload_n 0, 1) := by decide +kernel
theorem dX10_digest_53 : decode cX10_digest 53 = .ok (.getfield 25, 3) := by decide +kernel
theorem dX10_digest_56 : decode cX10_digest 56 = .ok (.getfield 177, 3) := by decide +kernel
theorem dX10_digest_59 : decode cX10_digest 59 = .ok (.iload 4, 2) := by decide +kernel
theorem dX10_digest_61 : decode cX10_digest 61 = .ok (.ishr, 1) := by decide +kernel
theorem dX10_digest_62 : decode cX10_digest 62 = .ok (.iconst 1, 1) := by decide +kernel
theorem dX10_digest_63 : decode cX10_digest 63 = .ok (.iand, 1) := by decide +kernel
theorem dX10_digest_64 : decode cX10_digest 64 = .ok (.i2l, 1) := by decide +kernel
theorem dX10_digest_65 : decode cX10_digest 65 = .ok (.invokestatic 286, 3) := by decide +kernel
theorem dX10_digest_68 : decode cX10_digest 68 = .ok (.lstore_n 1, 1) := by decide +kernel
theorem dX10_digest_69 : decode cX10_digest 69 = .ok (.lload_n 1, 1) := by decide +kernel
theorem dX10_digest_70 : decode cX10_digest 70 = .ok (.iload_n 3, 1) := by decide +kernel
theorem dX10_digest_71 : decode cX10_digest 71 = .ok (.iload 4, 2) := by decide +kernel
theorem dX10_digest_73 : decode cX10_digest 73 = .ok (.ishr, 1) := by decide +kernel
theorem dX10_digest_74 : decode cX10_digest 74 = .ok (.iconst 1, 1) := by decide +kernel
theorem dX10_digest_75 : decode cX10_digest 75 = .ok (.iand, 1) := by decide +kernel
theorem dX10_digest_76 : decode cX10_digest 76 = .ok (.iconst 1, 1) := by decide +kernel
theorem dX10_digest_77 : decode cX10_digest 77 = .ok (.ixor, 1) := by decide +kernel
theorem dX10_digest_78 : decode cX10_digest 78 = .ok (.i2l, 1) := by decide +kernel
theorem dX10_digest_79 : decode cX10_digest 79 = .ok (.invokestatic 286, 3) := by decide +kernel
theorem dX10_digest_82 : decode cX10_digest 82 = .ok (.lstore_n 1, 1) := by decide +kernel
theorem dX10_digest_83 : decode cX10_digest 83 = .ok (.iinc 4 1, 3) := by decide +kernel
theorem dX10_digest_86 : decode cX10_digest 86 = .ok (.goto (-47), 3) := by decide +kernel
theorem dX10_digest_89 : decode cX10_digest 89 = .ok (.iconst 0, 1) := by decide +kernel
theorem dX10_digest_90 : decode cX10_digest 90 = .ok (.istore 4, 2) := by decide +kernel
theorem dX10_digest_92 : decode cX10_digest 92 = .ok (.iload 4, 2) := by decide +kernel
theorem dX10_digest_94 : decode cX10_digest 94 = .ok (.aload_n 0, 1) := by decide +kernel
theorem dX10_digest_95 : decode cX10_digest 95 = .ok (.getfield 20, 3) := by decide +kernel
theorem dX10_digest_98 : decode cX10_digest 98 = .ok (.getfield 102, 3) := by decide +kernel
theorem dX10_digest_101 : decode cX10_digest 101 = .ok (.if_icmp .gt 35, 3) := by decide +kernel
theorem dX10_digest_104 : decode cX10_digest 104 = .ok (.aload_n 0, 1) := by decide +kernel
theorem dX10_digest_105 : decode cX10_digest 105 = .ok (.getfield 48, 3) := by decide +kernel
theorem dX10_digest_108 : decode cX10_digest 108 = .ok (.aload_n 0, 1) := by decide +kernel
theorem dX10_digest_109 : decode cX10_digest 109 = .ok (.getfield 20, 3) := by decide +kernel
theorem dX10_digest_112 : decode cX10_digest 112 = .ok (.iload 4, 2) := by decide +kernel
theorem dX10_digest_114 : decode cX10_digest 114 = .ok (.invokevirtual 193, 3) := by decide +kernel
theorem dX10_digest_117 : decode cX10_digest 117 = .ok (.lload_n 1, 1) := by decide +kernel
theorem dX10_digest_118 : decode cX10_digest 118 = .ok (.aload_n 0, 1) := by decide +kernel
theorem dX10_digest_119 : decode cX10_digest 119 = .ok (.getfield 48, 3) := by decide +kernel
theorem dX10_digest_122 : decode cX10_digest 122 = .ok (.getfield 197, 3) := by decide +kernel
theorem dX10_digest_125 : decode cX10_digest 125 = .ok (.i2l, 1) := by decide +kernel
theorem dX10_digest_126 : decode cX10_digest 126 = .ok (.invokestatic 286, 3) := by decide +kernel
theorem dX10_digest_129 : decode cX10_digest 129 = .ok (.lstore_n 1, 1) := by decide +kernel
theorem dX10_digest_130 : decode cX10_digest 130 = .ok (.iinc 4 1, 3) := by decide +kernel
theorem dX10_digest_133 : decode cX10_digest 133 = .ok (.goto (-41), 3) := by decide +kernel
theorem dX10_digest_136 : decode cX10_digest 136 = .ok (.lload_n 1, 1) := by decide +kernel
theorem dX10_digest_137 : decode cX10_digest 137 = .ok (.aload_n 0, 1) := by decide +kernel
theorem dX10_digest_138 : decode cX10_digest 138 = .ok (.getfield 30, 3) := by decide +kernel
theorem dX10_digest_141 : decode cX10_digest 141 = .ok (.aload_n 0, 1) := by decide +kernel
theorem dX10_digest_142 : decode cX10_digest 142 = .ok (.getfield 20, 3) := by decide +kernel
theorem dX10_digest_145 : decode cX10_digest 145 = .ok (.getfield 76, 3) := by decide +kernel
theorem dX10_digest_148 : decode cX10_digest 148 = .ok (.invokevirtual 206, 3) := by decide +kernel
theorem dX10_digest_151 : decode cX10_digest 151 = .ok (.invokestatic 128, 3) := by decide +kernel
theorem dX10_digest_154 : decode cX10_digest 154 = .ok (.invokestatic 286, 3) := by decide +kernel
theorem dX10_digest_157 : decode cX10_digest 157 = .ok (.lstore_n 1, 1) := by decide +kernel
theorem dX10_digest_158 : decode cX10_digest 158 = .ok (.lload_n 1, 1) := by decide +kernel
theorem dX10_digest_159 : decode cX10_digest 159 = .ok (.aload_n 0, 1) := by decide +kernel
theorem dX10_digest_160 : decode cX10_digest 160 = .ok (.getfield 59, 3) := by decide +kernel
theorem dX10_digest_163 : decode cX10_digest 163 = .ok (.i2l, 1) := by decide +kernel
theorem dX10_digest_164 : decode cX10_digest 164 = .ok (.invokestatic 286, 3) := by decide +kernel
theorem dX10_digest_167 : decode cX10_digest 167 = .ok (.aload_n 0, 1) := by decide +kernel
theorem dX10_digest_168 : decode cX10_digest 168 = .ok (.getfield 63, 3) := by decide +kernel
theorem dX10_digest_171 : decode cX10_digest 171 = .ok (.i2l, 1) := by decide +kernel
theorem dX10_digest_172 : decode cX10_digest 172 = .ok (.invokestatic 286, 3) := by decide +kernel
theorem dX10_digest_175 : decode cX10_digest 175 = .ok (.lstore_n 1, 1) := by decide +kernel
theorem dX10_digest_176 : decode cX10_digest 176 = .ok (.iconst 0, 1) := by decide +kernel
theorem dX10_digest_177 : decode cX10_digest 177 = .ok (.istore 4, 2) := by decide +kernel
theorem dX10_digest_179 : decode cX10_digest 179 = .ok (.iload 4, 2) := by decide +kernel
theorem dX10_digest_181 : decode cX10_digest 181 = .ok (.aload_n 0, 1) := by decide +kernel
theorem dX10_digest_182 : decode cX10_digest 182 = .ok (.getfield 34, 3) := by decide +kernel
theorem dX10_digest_185 : decode cX10_digest 185 = .ok (.getfield 140, 3) := by decide +kernel
theorem dX10_digest_188 : decode cX10_digest 188 = .ok (.if_icmp .ge 25, 3) := by decide +kernel
theorem dX10_digest_191 : decode cX10_digest 191 = .ok (.lload_n 1, 1) := by decide +kernel
theorem dX10_digest_192 : decode cX10_digest 192 = .ok (.aload_n 0, 1) := by decide +kernel
theorem dX10_digest_193 : decode cX10_digest 193 = .ok (.getfield 34, 3) := by decide +kernel
theorem dX10_digest_196 : decode cX10_digest 196 = .ok (.getfield 293, 3) := by decide +kernel
theorem dX10_digest_199 : decode cX10_digest 199 = .ok (.iload 4, 2) := by decide +kernel
theorem dX10_digest_201 : decode cX10_digest 201 = .ok (.caload, 1) := by decide +kernel
theorem dX10_digest_202 : decode cX10_digest 202 = .ok (.i2l, 1) := by decide +kernel
theorem dX10_digest_203 : decode cX10_digest 203 = .ok (.invokestatic 286, 3) := by decide +kernel
theorem dX10_digest_206 : decode cX10_digest 206 = .ok (.lstore_n 1, 1) := by decide +kernel
theorem dX10_digest_207 : decode cX10_digest 207 = .ok (.iinc 4 1, 3) := by decide +kernel
theorem dX10_digest_210 : decode cX10_digest 210 = .ok (.goto (-31), 3) := by decide +kernel
theorem dX10_digest_213 : decode cX10_digest 213 = .ok (.iconst 0, 1) := by decide +kernel
theorem dX10_digest_214 : decode cX10_digest 214 = .ok (.istore 4, 2) := by decide +kernel
theorem dX10_digest_216 : decode cX10_digest 216 = .ok (.iload 4, 2) := by decide +kernel
theorem dX10_digest_218 : decode cX10_digest 218 = .ok (.bipush 6, 2) := by decide +kernel
theorem dX10_digest_220 : decode cX10_digest 220 = .ok (.if_icmp .gt 21, 3) := by decide +kernel
theorem dX10_digest_223 : decode cX10_digest 223 = .ok (.lload_n 1, 1) := by decide +kernel
theorem dX10_digest_224 : decode cX10_digest 224 = .ok (.aload_n 0, 1) := by decide +kernel
theorem dX10_digest_225 : decode cX10_digest 225 = .ok (.iload 4, 2) := by decide +kernel
theorem dX10_digest_227 : decode cX10_digest 227 = .ok (.invokevirtual 297, 3) := by decide +kernel
theorem dX10_digest_230 : decode cX10_digest 230 = .ok (.i2l, 1) := by decide +kernel
theorem dX10_digest_231 : decode cX10_digest 231 = .ok (.invokestatic 286, 3) := by decide +kernel
theorem dX10_digest_234 : decode cX10_digest 234 = .ok (.lstore_n 1, 1) := by decide +kernel
theorem dX10_digest_235 : decode cX10_digest 235 = .ok (.iinc 4 1, 3) := by decide +kernel
theorem dX10_digest_238 : decode cX10_digest 238 = .ok (.goto (-22), 3) := by decide +kernel
theorem dX10_digest_241 : decode cX10_digest 241 = .ok (.lload_n 1, 1) := by decide +kernel
theorem dX10_digest_242 : decode cX10_digest 242 = .ok (.lreturn, 1) := by decide +kernel
theorem dX10_digestProgram_0 : decode cX10_digestProgram 0 = .ok (.lload_n 1, 1) := by decide +kernel
theorem dX10_digestProgram_1 : decode cX10_digestProgram 1 = .ok (.lstore_n 3, 1) := by decide +kernel
theorem dX10_digestProgram_2 : decode cX10_digestProgram 2 = .ok (.iconst 0, 1) := by decide +kernel
theorem dX10_digestProgram_3 : decode cX10_digestProgram 3 = .ok (.istore 5, 2) := by decide +kernel
theorem dX10_digestProgram_5 : decode cX10_digestProgram 5 = .ok (.iload 5, 2) := by decide +kernel
theorem dX10_digestProgram_7 : decode cX10_digestProgram 7 = .ok (.aload_n 0, 1) := by decide +kernel
theorem dX10_digestProgram_8 : decode cX10_digestProgram 8 = .ok (.getfield 20, 3) := by decide +kernel
theorem dX10_digestProgram_11 : decode cX10_digestProgram 11 = .ok (.getfield 102, 3) := by decide +kernel
theorem dX10_digestProgram_14 : decode cX10_digestProgram 14 = .ok (.if_icmp .ge 45, 3) := by decide +kernel
theorem dX10_digestProgram_17 : decode cX10_digestProgram 17 = .ok (.iconst 0, 1) := by decide +kernel
theorem dX10_digestProgram_18 : decode cX10_digestProgram 18 = .ok (.istore 6, 2) := by decide +kernel
theorem dX10_digestProgram_20 : decode cX10_digestProgram 20 = .ok (.iload 6, 2) := by decide +kernel
theorem dX10_digestProgram_22 : decode cX10_digestProgram 22 = .ok (.iconst 4, 1) := by decide +kernel
theorem dX10_digestProgram_23 : decode cX10_digestProgram 23 = .ok (.if_icmp .gt 30, 3) := by decide +kernel
theorem dX10_digestProgram_26 : decode cX10_digestProgram 26 = .ok (.lload_n 3, 1) := by decide +kernel
theorem dX10_digestProgram_27 : decode cX10_digestProgram 27 = .ok (.aload_n 0, 1) := by decide +kernel
theorem dX10_digestProgram_28 : decode cX10_digestProgram 28 = .ok (.getfield 20, 3) := by decide +kernel
theorem dX10_digestProgram_31 : decode cX10_digestProgram 31 = .ok (.getfield 110, 3) := by decide +kernel
theorem dX10_digestProgram_34 : decode cX10_digestProgram 34 = .ok (.iload 5, 2) := by decide +kernel
theorem dX10_digestProgram_36 : decode cX10_digestProgram 36 = .ok (.aaload, 1) := by decide +kernel
theorem dX10_digestProgram_37 : decode cX10_digestProgram 37 = .ok (.iload 6, 2) := by decide +kernel
theorem dX10_digestProgram_39 : decode cX10_digestProgram 39 = .ok (.invokevirtual 114, 3) := by decide +kernel
theorem dX10_digestProgram_42 : decode cX10_digestProgram 42 = .ok (.i2l, 1) := by decide +kernel
theorem dX10_digestProgram_43 : decode cX10_digestProgram 43 = .ok (.invokestatic 286, 3) := by decide +kernel
theorem dX10_digestProgram_46 : decode cX10_digestProgram 46 = .ok (.lstore_n 3, 1) := by decide +kernel
theorem dX10_digestProgram_47 : decode cX10_digestProgram 47 = .ok (.iinc 6 1, 3) := by decide +kernel
theorem dX10_digestProgram_50 : decode cX10_digestProgram 50 = .ok (.goto (-30), 3) := by decide +kernel
theorem dX10_digestProgram_53 : decode cX10_digestProgram 53 = .ok (.iinc 5 1, 3) := by decide +kernel
theorem dX10_digestProgram_56 : decode cX10_digestProgram 56 = .ok (.goto (-51), 3) := by decide +kernel
theorem dX10_digestProgram_59 : decode cX10_digestProgram 59 = .ok (.lload_n 3, 1) := by decide +kernel
theorem dX10_digestProgram_60 : decode cX10_digestProgram 60 = .ok (.aload_n 0, 1) := by decide +kernel
theorem dX10_digestProgram_61 : decode cX10_digestProgram 61 = .ok (.getfield 20, 3) := by decide +kernel
theorem dX10_digestProgram_64 : decode cX10_digestProgram 64 = .ok (.aload_n 0, 1) := by decide +kernel
theorem dX10_digestProgram_65 : decode cX10_digestProgram 65 = .ok (.getfield 20, 3) := by decide +kernel
theorem dX10_digestProgram_68 : decode cX10_digestProgram 68 = .ok (.invokevirtual 120, 3) := by decide +kernel
theorem dX10_digestProgram_71 : decode cX10_digestProgram 71 = .ok (.invokevirtual 124, 3) := by decide +kernel
theorem dX10_digestProgram_74 : decode cX10_digestProgram 74 = .ok (.invokestatic 128, 3) := by decide +kernel
theorem dX10_digestProgram_77 : decode cX10_digestProgram 77 = .ok (.invokestatic 286, 3) := by decide +kernel
theorem dX10_digestProgram_80 : decode cX10_digestProgram 80 = .ok (.lreturn, 1) := by decide +kernel
theorem dX10_mix_0 : decode cX10_mix 0 = .ok (.ldc2_w 300, 3) := by decide +kernel
theorem dX10_mix_3 : decode cX10_mix 3 = .ok (.lload_n 0, 1) := by decide +kernel
theorem dX10_mix_4 : decode cX10_mix 4 = .ok (.lmul, 1) := by decide +kernel
theorem dX10_mix_5 : decode cX10_mix 5 = .ok (.lload_n 2, 1) := by decide +kernel
theorem dX10_mix_6 : decode cX10_mix 6 = .ok (.ladd, 1) := by decide +kernel
theorem dX10_mix_7 : decode cX10_mix 7 = .ok (.lreturn, 1) := by decide +kernel
theorem dX10_forgetFound_0 : decode cX10_forgetFound 0 = .ok (.aload_n 0, 1) := by decide +kernel
theorem dX10_forgetFound_1 : decode cX10_forgetFound 1 = .ok (.getfield 48, 3) := by decide +kernel
theorem dX10_forgetFound_4 : decode cX10_forgetFound 4 = .ok (.invokevirtual 302, 3) := by decide +kernel
theorem dX10_forgetFound_7 : decode cX10_forgetFound 7 = .ok (.aload_n 0, 1) := by decide +kernel
theorem dX10_forgetFound_8 : decode cX10_forgetFound 8 = .ok (.getfield 12, 3) := by decide +kernel
theorem dX10_forgetFound_11 : decode cX10_forgetFound 11 = .ok (.invokevirtual 168, 3) := by decide +kernel
theorem dX10_forgetFound_14 : decode cX10_forgetFound 14 = .ok (.return_, 1) := by decide +kernel
theorem dX10_isSector_0 : decode cX10_isSector 0 = .ok (.iload_n 0, 1) := by decide +kernel
theorem dX10_isSector_1 : decode cX10_isSector 1 = .ok (.ifCond .lt 13, 3) := by decide +kernel
theorem dX10_isSector_4 : decode cX10_isSector 4 = .ok (.iload_n 0, 1) := by decide +kernel
theorem dX10_isSector_5 : decode cX10_isSector 5 = .ok (.bipush 8, 2) := by decide +kernel
theorem dX10_isSector_7 : decode cX10_isSector 7 = .ok (.if_icmp .ge 7, 3) := by decide +kernel
theorem dX10_isSector_10 : decode cX10_isSector 10 = .ok (.iconst 1, 1) := by decide +kernel
theorem dX10_isSector_11 : decode cX10_isSector 11 = .ok (.goto 4, 3) := by decide +kernel
theorem dX10_isSector_14 : decode cX10_isSector 14 = .ok (.iconst 0, 1) := by decide +kernel
theorem dX10_isSector_15 : decode cX10_isSector 15 = .ok (.ireturn, 1) := by decide +kernel
theorem dX10_isFigure_0 : decode cX10_isFigure 0 = .ok (.iload_n 0, 1) := by decide +kernel
theorem dX10_isFigure_1 : decode cX10_isFigure 1 = .ok (.ifCond .lt 13, 3) := by decide +kernel
theorem dX10_isFigure_4 : decode cX10_isFigure 4 = .ok (.iload_n 0, 1) := by decide +kernel
theorem dX10_isFigure_5 : decode cX10_isFigure 5 = .ok (.bipush 99, 2) := by decide +kernel
theorem dX10_isFigure_7 : decode cX10_isFigure 7 = .ok (.if_icmp .gt 7, 3) := by decide +kernel
theorem dX10_isFigure_10 : decode cX10_isFigure 10 = .ok (.iconst 1, 1) := by decide +kernel
theorem dX10_isFigure_11 : decode cX10_isFigure 11 = .ok (.goto 4, 3) := by decide +kernel
theorem dX10_isFigure_14 : decode cX10_isFigure 14 = .ok (.iconst 0, 1) := by decide +kernel
theorem dX10_isFigure_15 : decode cX10_isFigure 15 = .ok (.ireturn, 1) := by decide +kernel
theorem dX10_isNumberOfPlate_0 : decode cX10_isNumberOfPlate 0 = .ok (.lload_n 0, 1) := by decide +kernel
theorem dX10_isNumberOfPlate_1 : decode cX10_isNumberOfPlate 1 = .ok (.lconst 0, 1) := by decide +kernel
theorem dX10_isNumberOfPlate_2 : decode cX10_isNumberOfPlate 2 = .ok (.lcmp, 1) := by decide +kernel
theorem dX10_isNumberOfPlate_3 : decode cX10_isNumberOfPlate 3 = .ok (.ifCond .lt 15, 3) := by decide +kernel
theorem dX10_isNumberOfPlate_6 : decode cX10_isNumberOfPlate 6 = .ok (.lload_n 0, 1) := by decide +kernel
theorem dX10_isNumberOfPlate_7 : decode cX10_isNumberOfPlate 7 = .ok (.ldc2_w 303, 3) := by decide +kernel
theorem dX10_isNumberOfPlate_10 : decode cX10_isNumberOfPlate 10 = .ok (.lcmp, 1) := by decide +kernel
theorem dX10_isNumberOfPlate_11 : decode cX10_isNumberOfPlate 11 = .ok (.ifCond .gt 7, 3) := by decide +kernel
theorem dX10_isNumberOfPlate_14 : decode cX10_isNumberOfPlate 14 = .ok (.iconst 1, 1) := by decide +kernel
theorem dX10_isNumberOfPlate_15 : decode cX10_isNumberOfPlate 15 = .ok (.goto 4, 3) := by decide +kernel
theorem dX10_isNumberOfPlate_18 : decode cX10_isNumberOfPlate 18 = .ok (.iconst 0, 1) := by decide +kernel
theorem dX10_isNumberOfPlate_19 : decode cX10_isNumberOfPlate 19 = .ok (.ireturn, 1) := by decide +kernel
theorem dX10_plateOfNumber_0 : decode cX10_plateOfNumber 0 = .ok (.lload_n 0, 1) := by decide +kernel
theorem dX10_plateOfNumber_1 : decode cX10_plateOfNumber 1 = .ok (.lstore_n 2, 1) := by decide +kernel
theorem dX10_plateOfNumber_2 : decode cX10_plateOfNumber 2 = .ok (.lconst 0, 1) := by decide +kernel
theorem dX10_plateOfNumber_3 : decode cX10_plateOfNumber 3 = .ok (.lstore 4, 2) := by decide +kernel
theorem dX10_plateOfNumber_5 : decode cX10_plateOfNumber 5 = .ok (.iconst 0, 1) := by decide +kernel
theorem dX10_plateOfNumber_6 : decode cX10_plateOfNumber 6 = .ok (.istore 6, 2) := by decide +kernel
theorem dX10_plateOfNumber_8 : decode cX10_plateOfNumber 8 = .ok (.iload 6, 2) := by decide +kernel
theorem dX10_plateOfNumber_10 : decode cX10_plateOfNumber 10 = .ok (.bipush 8, 2) := by decide +kernel
theorem dX10_plateOfNumber_12 : decode cX10_plateOfNumber 12 = .ok (.if_icmp .ge 31, 3) := by decide +kernel
theorem dX10_plateOfNumber_15 : decode cX10_plateOfNumber 15 = .ok (.lload 4, 2) := by decide +kernel
theorem dX10_plateOfNumber_17 : decode cX10_plateOfNumber 17 = .ok (.lload_n 2, 1) := by decide +kernel
theorem dX10_plateOfNumber_18 : decode cX10_plateOfNumber 18 = .ok (.ldc2_w 305, 3) := by decide +kernel
theorem dX10_plateOfNumber_21 : decode cX10_plateOfNumber 21 = .ok (.lrem, 1) := by decide +kernel
theorem dX10_plateOfNumber_22 : decode cX10_plateOfNumber 22 = .ok (.bipush 8, 2) := by decide +kernel
theorem dX10_plateOfNumber_24 : decode cX10_plateOfNumber 24 = .ok (.iload 6, 2) := by decide +kernel
theorem dX10_plateOfNumber_26 : decode cX10_plateOfNumber 26 = .ok (.imul, 1) := by decide +kernel
theorem dX10_plateOfNumber_27 : decode cX10_plateOfNumber 27 = .ok (.lshl, 1) := by decide +kernel
theorem dX10_plateOfNumber_28 : decode cX10_plateOfNumber 28 = .ok (.lor, 1) := by decide +kernel
theorem dX10_plateOfNumber_29 : decode cX10_plateOfNumber 29 = .ok (.lstore 4, 2) := by decide +kernel
theorem dX10_plateOfNumber_31 : decode cX10_plateOfNumber 31 = .ok (.lload_n 2, 1) := by decide +kernel
theorem dX10_plateOfNumber_32 : decode cX10_plateOfNumber 32 = .ok (.ldc2_w 305, 3) := by decide +kernel
theorem dX10_plateOfNumber_35 : decode cX10_plateOfNumber 35 = .ok (.ldiv, 1) := by decide +kernel
theorem dX10_plateOfNumber_36 : decode cX10_plateOfNumber 36 = .ok (.lstore_n 2, 1) := by decide +kernel
theorem dX10_plateOfNumber_37 : decode cX10_plateOfNumber 37 = .ok (.iinc 6 1, 3) := by decide +kernel
theorem dX10_plateOfNumber_40 : decode cX10_plateOfNumber 40 = .ok (.goto (-32), 3) := by decide +kernel
theorem dX10_plateOfNumber_43 : decode cX10_plateOfNumber 43 = .ok (.lload 4, 2) := by decide +kernel
theorem dX10_plateOfNumber_45 : decode cX10_plateOfNumber 45 = .ok (.lreturn, 1) := by decide +kernel
theorem dX10_numberOf_0 : decode cX10_numberOf 0 = .ok (.lconst 0, 1) := by decide +kernel
theorem dX10_numberOf_1 : decode cX10_numberOf 1 = .ok (.lstore_n 2, 1) := by decide +kernel
theorem dX10_numberOf_2 : decode cX10_numberOf 2 = .ok (.bipush 7, 2) := by decide +kernel
theorem dX10_numberOf_4 : decode cX10_numberOf 4 = .ok (.istore 4, 2) := by decide +kernel
theorem dX10_numberOf_6 : decode cX10_numberOf 6 = .ok (.iload 4, 2) := by decide +kernel
theorem dX10_numberOf_8 : decode cX10_numberOf 8 = .ok (.ifCond .lt 23, 3) := by decide +kernel
theorem dX10_numberOf_11 : decode cX10_numberOf 11 = .ok (.lload_n 2, 1) := by decide +kernel
theorem dX10_numberOf_12 : decode cX10_numberOf 12 = .ok (.ldc2_w 305, 3) := by decide +kernel
theorem dX10_numberOf_15 : decode cX10_numberOf 15 = .ok (.lmul, 1) := by decide +kernel
theorem dX10_numberOf_16 : decode cX10_numberOf 16 = .ok (.lload_n 0, 1) := by decide +kernel
theorem dX10_numberOf_17 : decode cX10_numberOf 17 = .ok (.iload 4, 2) := by decide +kernel
theorem dX10_numberOf_19 : decode cX10_numberOf 19 = .ok (.invokestatic 82, 3) := by decide +kernel
theorem dX10_numberOf_22 : decode cX10_numberOf 22 = .ok (.i2l, 1) := by decide +kernel
theorem dX10_numberOf_23 : decode cX10_numberOf 23 = .ok (.ladd, 1) := by decide +kernel
theorem dX10_numberOf_24 : decode cX10_numberOf 24 = .ok (.lstore_n 2, 1) := by decide +kernel
theorem dX10_numberOf_25 : decode cX10_numberOf 25 = .ok (.iinc 4 (-1), 3) := by decide +kernel
theorem dX10_numberOf_28 : decode cX10_numberOf 28 = .ok (.goto (-22), 3) := by decide +kernel
theorem dX10_numberOf_31 : decode cX10_numberOf 31 = .ok (.lload_n 2, 1) := by decide +kernel
theorem dX10_numberOf_32 : decode cX10_numberOf 32 = .ok (.lreturn, 1) := by decide +kernel
theorem dX10_figureOf_0 : decode cX10_figureOf 0 = .ok (.lload_n 0, 1) := by decide +kernel
theorem dX10_figureOf_1 : decode cX10_figureOf 1 = .ok (.bipush 8, 2) := by decide +kernel
theorem dX10_figureOf_3 : decode cX10_figureOf 3 = .ok (.iload_n 2, 1) := by decide +kernel
theorem dX10_figureOf_4 : decode cX10_figureOf 4 = .ok (.imul, 1) := by decide +kernel
theorem dX10_figureOf_5 : decode cX10_figureOf 5 = .ok (.lushr, 1) := by decide +kernel
theorem dX10_figureOf_6 : decode cX10_figureOf 6 = .ok (.ldc2_w 307, 3) := by decide +kernel
theorem dX10_figureOf_9 : decode cX10_figureOf 9 = .ok (.land, 1) := by decide +kernel
theorem dX10_figureOf_10 : decode cX10_figureOf 10 = .ok (.l2i, 1) := by decide +kernel
theorem dX10_figureOf_11 : decode cX10_figureOf 11 = .ok (.ireturn, 1) := by decide +kernel
theorem dX10_withFigure_0 : decode cX10_withFigure 0 = .ok (.lload_n 0, 1) := by decide +kernel
theorem dX10_withFigure_1 : decode cX10_withFigure 1 = .ok (.ldc2_w 307, 3) := by decide +kernel
theorem dX10_withFigure_4 : decode cX10_withFigure 4 = .ok (.bipush 8, 2) := by decide +kernel
theorem dX10_withFigure_6 : decode cX10_withFigure 6 = .ok (.iload_n 2, 1) := by decide +kernel
theorem dX10_withFigure_7 : decode cX10_withFigure 7 = .ok (.imul, 1) := by decide +kernel
theorem dX10_withFigure_8 : decode cX10_withFigure 8 = .ok (.lshl, 1) := by decide +kernel
theorem dX10_withFigure_9 : decode cX10_withFigure 9 = .ok (.ldc2_w 204, 3) := by decide +kernel
theorem dX10_withFigure_12 : decode cX10_withFigure 12 = .ok (.lxor, 1) := by decide +kernel
theorem dX10_withFigure_13 : decode cX10_withFigure 13 = .ok (.land, 1) := by decide +kernel
theorem dX10_withFigure_14 : decode cX10_withFigure 14 = .ok (.iload_n 3, 1) := by decide +kernel
theorem dX10_withFigure_15 : decode cX10_withFigure 15 = .ok (.i2l, 1) := by decide +kernel
theorem dX10_withFigure_16 : decode cX10_withFigure 16 = .ok (.bipush 8, 2) := by decide +kernel
theorem dX10_withFigure_18 : decode cX10_withFigure 18 = .ok (.iload_n 2, 1) := by decide +kernel
theorem dX10_withFigure_19 : decode cX10_withFigure 19 = .ok (.imul, 1) := by decide +kernel
theorem dX10_withFigure_20 : decode cX10_withFigure 20 = .ok (.lshl, 1) := by decide +kernel
theorem dX10_withFigure_21 : decode cX10_withFigure 21 = .ok (.lor, 1) := by decide +kernel
theorem dX10_withFigure_22 : decode cX10_withFigure 22 = .ok (.lreturn, 1) := by decide +kernel
theorem dX10_unpack_0 : decode cX10_unpack 0 = .ok (.iconst 0, 1) := by decide +kernel
theorem dX10_unpack_1 : decode cX10_unpack 1 = .ok (.istore_n 3, 1) := by decide +kernel
theorem dX10_unpack_2 : decode cX10_unpack 2 = .ok (.iload_n 3, 1) := by decide +kernel
theorem dX10_unpack_3 : decode cX10_unpack 3 = .ok (.aload_n 2, 1) := by decide +kernel
theorem dX10_unpack_4 : decode cX10_unpack 4 = .ok (.arraylength, 1) := by decide +kernel
theorem dX10_unpack_5 : decode cX10_unpack 5 = .ok (.if_icmp .ge 23, 3) := by decide +kernel
theorem dX10_unpack_8 : decode cX10_unpack 8 = .ok (.aload_n 2, 1) := by decide +kernel
theorem dX10_unpack_9 : decode cX10_unpack 9 = .ok (.iload_n 3, 1) := by decide +kernel
theorem dX10_unpack_10 : decode cX10_unpack 10 = .ok (.lload_n 0, 1) := by decide +kernel
theorem dX10_unpack_11 : decode cX10_unpack 11 = .ok (.bipush 8, 2) := by decide +kernel
theorem dX10_unpack_13 : decode cX10_unpack 13 = .ok (.iload_n 3, 1) := by decide +kernel
theorem dX10_unpack_14 : decode cX10_unpack 14 = .ok (.imul, 1) := by decide +kernel
theorem dX10_unpack_15 : decode cX10_unpack 15 = .ok (.lushr, 1) := by decide +kernel
theorem dX10_unpack_16 : decode cX10_unpack 16 = .ok (.ldc2_w 307, 3) := by decide +kernel
theorem dX10_unpack_19 : decode cX10_unpack 19 = .ok (.land, 1) := by decide +kernel
theorem dX10_unpack_20 : decode cX10_unpack 20 = .ok (.l2i, 1) := by decide +kernel
theorem dX10_unpack_21 : decode cX10_unpack 21 = .ok (.iastore, 1) := by decide +kernel
theorem dX10_unpack_22 : decode cX10_unpack 22 = .ok (.iinc 3 1, 3) := by decide +kernel
theorem dX10_unpack_25 : decode cX10_unpack 25 = .ok (.goto (-23), 3) := by decide +kernel
theorem dX10_unpack_28 : decode cX10_unpack 28 = .ok (.return_, 1) := by decide +kernel
theorem dX10_pack_0 : decode cX10_pack 0 = .ok (.lconst 0, 1) := by decide +kernel
theorem dX10_pack_1 : decode cX10_pack 1 = .ok (.lstore_n 1, 1) := by decide +kernel
theorem dX10_pack_2 : decode cX10_pack 2 = .ok (.iconst 0, 1) := by decide +kernel
theorem dX10_pack_3 : decode cX10_pack 3 = .ok (.istore_n 3, 1) := by decide +kernel
theorem dX10_pack_4 : decode cX10_pack 4 = .ok (.iload_n 3, 1) := by decide +kernel
theorem dX10_pack_5 : decode cX10_pack 5 = .ok (.aload_n 0, 1) := by decide +kernel
theorem dX10_pack_6 : decode cX10_pack 6 = .ok (.arraylength, 1) := by decide +kernel
theorem dX10_pack_7 : decode cX10_pack 7 = .ok (.if_icmp .ge 21, 3) := by decide +kernel
theorem dX10_pack_10 : decode cX10_pack 10 = .ok (.lload_n 1, 1) := by decide +kernel
theorem dX10_pack_11 : decode cX10_pack 11 = .ok (.aload_n 0, 1) := by decide +kernel
theorem dX10_pack_12 : decode cX10_pack 12 = .ok (.iload_n 3, 1) := by decide +kernel
theorem dX10_pack_13 : decode cX10_pack 13 = .ok (.iaload, 1) := by decide +kernel
theorem dX10_pack_14 : decode cX10_pack 14 = .ok (.i2l, 1) := by decide +kernel
theorem dX10_pack_15 : decode cX10_pack 15 = .ok (.bipush 8, 2) := by decide +kernel
theorem dX10_pack_17 : decode cX10_pack 17 = .ok (.iload_n 3, 1) := by decide +kernel
theorem dX10_pack_18 : decode cX10_pack 18 = .ok (.imul, 1) := by decide +kernel
theorem dX10_pack_19 : decode cX10_pack 19 = .ok (.lshl, 1) := by decide +kernel
theorem dX10_pack_20 : decode cX10_pack 20 = .ok (.lor, 1) := by decide +kernel
theorem dX10_pack_21 : decode cX10_pack 21 = .ok (.lstore_n 1, 1) := by decide +kernel
theorem dX10_pack_22 : decode cX10_pack 22 = .ok (.iinc 3 1, 3) := by decide +kernel
theorem dX10_pack_25 : decode cX10_pack 25 = .ok (.goto (-21), 3) := by decide +kernel
theorem dX10_pack_28 : decode cX10_pack 28 = .ok (.lload_n 1, 1) := by decide +kernel
theorem dX10_pack_29 : decode cX10_pack 29 = .ok (.lreturn, 1) := by decide +kernel
theorem dX10_nextSet_0 : decode cX10_nextSet 0 = .ok (.iload_n 0, 1) := by decide +kernel
theorem dX10_nextSet_1 : decode cX10_nextSet 1 = .ok (.iload_n 1, 1) := by decide +kernel
theorem dX10_nextSet_2 : decode cX10_nextSet 2 = .ok (.isub, 1) := by decide +kernel
theorem dX10_nextSet_3 : decode cX10_nextSet 3 = .ok (.iload_n 1, 1) := by decide +kernel
theorem dX10_nextSet_4 : decode cX10_nextSet 4 = .ok (.iand, 1) := by decide +kernel
theorem dX10_nextSet_5 : decode cX10_nextSet 5 = .ok (.ireturn, 1) := by decide +kernel

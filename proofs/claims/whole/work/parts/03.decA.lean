theorem dJ6_bitCount_0f7a4_0 : decode cJ6_bitCount_0f7a4 0 = .ok (.iload_n 0, 1) := by decide +kernel
theorem dJ6_bitCount_0f7a4_1 : decode cJ6_bitCount_0f7a4 1 = .ok (.iload_n 0, 1) := by decide +kernel
theorem dJ6_bitCount_0f7a4_2 : decode cJ6_bitCount_0f7a4 2 = .ok (.iconst 1, 1) := by decide +kernel
theorem dJ6_bitCount_0f7a4_3 : decode cJ6_bitCount_0f7a4 3 = .ok (.iushr, 1) := by decide +kernel
theorem dJ6_bitCount_0f7a4_4 : decode cJ6_bitCount_0f7a4 4 = .ok (.ldc_w 265, 3) := by decide +kernel
theorem dJ6_bitCount_0f7a4_7 : decode cJ6_bitCount_0f7a4 7 = .ok (.iand, 1) := by decide +kernel
theorem dJ6_bitCount_0f7a4_8 : decode cJ6_bitCount_0f7a4 8 = .ok (.isub, 1) := by decide +kernel
theorem dJ6_bitCount_0f7a4_9 : decode cJ6_bitCount_0f7a4 9 = .ok (.istore_n 0, 1) := by decide +kernel
theorem dJ6_bitCount_0f7a4_10 : decode cJ6_bitCount_0f7a4 10 = .ok (.iload_n 0, 1) := by decide +kernel
theorem dJ6_bitCount_0f7a4_11 : decode cJ6_bitCount_0f7a4 11 = .ok (.ldc_w 266, 3) := by decide +kernel
theorem dJ6_bitCount_0f7a4_14 : decode cJ6_bitCount_0f7a4 14 = .ok (.iand, 1) := by decide +kernel
theorem dJ6_bitCount_0f7a4_15 : decode cJ6_bitCount_0f7a4 15 = .ok (.iload_n 0, 1) := by decide +kernel
theorem dJ6_bitCount_0f7a4_16 : decode cJ6_bitCount_0f7a4 16 = .ok (.iconst 2, 1) := by decide +kernel
theorem dJ6_bitCount_0f7a4_17 : decode cJ6_bitCount_0f7a4 17 = .ok (.iushr, 1) := by decide +kernel
theorem dJ6_bitCount_0f7a4_18 : decode cJ6_bitCount_0f7a4 18 = .ok (.ldc_w 266, 3) := by decide +kernel
theorem dJ6_bitCount_0f7a4_21 : decode cJ6_bitCount_0f7a4 21 = .ok (.iand, 1) := by decide +kernel
theorem dJ6_bitCount_0f7a4_22 : decode cJ6_bitCount_0f7a4 22 = .ok (.iadd, 1) := by decide +kernel
theorem dJ6_bitCount_0f7a4_23 : decode cJ6_bitCount_0f7a4 23 = .ok (.istore_n 0, 1) := by decide +kernel
theorem dJ6_bitCount_0f7a4_24 : decode cJ6_bitCount_0f7a4 24 = .ok (.iload_n 0, 1) := by decide +kernel
theorem dJ6_bitCount_0f7a4_25 : decode cJ6_bitCount_0f7a4 25 = .ok (.iload_n 0, 1) := by decide +kernel
theorem dJ6_bitCount_0f7a4_26 : decode cJ6_bitCount_0f7a4 26 = .ok (.iconst 4, 1) := by decide +kernel
theorem dJ6_bitCount_0f7a4_27 : decode cJ6_bitCount_0f7a4 27 = .ok (.iushr, 1) := by decide +kernel
theorem dJ6_bitCount_0f7a4_28 : decode cJ6_bitCount_0f7a4 28 = .ok (.iadd, 1) := by decide +kernel
theorem dJ6_bitCount_0f7a4_29 : decode cJ6_bitCount_0f7a4 29 = .ok (.ldc_w 267, 3) := by decide +kernel
theorem dJ6_bitCount_0f7a4_32 : decode cJ6_bitCount_0f7a4 32 = .ok (.iand, 1) := by decide +kernel
theorem dJ6_bitCount_0f7a4_33 : decode cJ6_bitCount_0f7a4 33 = .ok (.istore_n 0, 1) := by decide +kernel
theorem dJ6_bitCount_0f7a4_34 : decode cJ6_bitCount_0f7a4 34 = .ok (.iload_n 0, 1) := by decide +kernel
theorem dJ6_bitCount_0f7a4_35 : decode cJ6_bitCount_0f7a4 35 = .ok (.iload_n 0, 1) := by decide +kernel
theorem dJ6_bitCount_0f7a4_36 : decode cJ6_bitCount_0f7a4 36 = .ok (.bipush 8, 2) := by decide +kernel
theorem dJ6_bitCount_0f7a4_38 : decode cJ6_bitCount_0f7a4 38 = .ok (.iushr, 1) := by decide +kernel
theorem dJ6_bitCount_0f7a4_39 : decode cJ6_bitCount_0f7a4 39 = .ok (.iadd, 1) := by decide +kernel
theorem dJ6_bitCount_0f7a4_40 : decode cJ6_bitCount_0f7a4 40 = .ok (.istore_n 0, 1) := by decide +kernel
theorem dJ6_bitCount_0f7a4_41 : decode cJ6_bitCount_0f7a4 41 = .ok (.iload_n 0, 1) := by decide +kernel
theorem dJ6_bitCount_0f7a4_42 : decode cJ6_bitCount_0f7a4 42 = .ok (.iload_n 0, 1) := by decide +kernel
theorem dJ6_bitCount_0f7a4_43 : decode cJ6_bitCount_0f7a4 43 = .ok (.bipush 16, 2) := by decide +kernel
theorem dJ6_bitCount_0f7a4_45 : decode cJ6_bitCount_0f7a4 45 = .ok (.iushr, 1) := by decide +kernel
theorem dJ6_bitCount_0f7a4_46 : decode cJ6_bitCount_0f7a4 46 = .ok (.iadd, 1) := by decide +kernel
theorem dJ6_bitCount_0f7a4_47 : decode cJ6_bitCount_0f7a4 47 = .ok (.istore_n 0, 1) := by decide +kernel
theorem dJ6_bitCount_0f7a4_48 : decode cJ6_bitCount_0f7a4 48 = .ok (.iload_n 0, 1) := by decide +kernel
theorem dJ6_bitCount_0f7a4_49 : decode cJ6_bitCount_0f7a4 49 = .ok (.bipush 63, 2) := by decide +kernel
theorem dJ6_bitCount_0f7a4_51 : decode cJ6_bitCount_0f7a4 51 = .ok (.iand, 1) := by decide +kernel
theorem dJ6_bitCount_0f7a4_52 : decode cJ6_bitCount_0f7a4 52 = .ok (.ireturn, 1) := by decide +kernel
theorem dJ7_fill_53178_0 : decode cJ7_fill_53178 0 = .ok (.iconst 0, 1) := by decide +kernel
theorem dJ7_fill_53178_1 : decode cJ7_fill_53178 1 = .ok (.istore_n 2, 1) := by decide +kernel
theorem dJ7_fill_53178_2 : decode cJ7_fill_53178 2 = .ok (.aload_n 0, 1) := by decide +kernel
theorem dJ7_fill_53178_3 : decode cJ7_fill_53178 3 = .ok (.arraylength, 1) := by decide +kernel
theorem dJ7_fill_53178_4 : decode cJ7_fill_53178 4 = .ok (.istore_n 3, 1) := by decide +kernel
theorem dJ7_fill_53178_5 : decode cJ7_fill_53178 5 = .ok (.iload_n 2, 1) := by decide +kernel
theorem dJ7_fill_53178_6 : decode cJ7_fill_53178 6 = .ok (.iload_n 3, 1) := by decide +kernel
theorem dJ7_fill_53178_7 : decode cJ7_fill_53178 7 = .ok (.if_icmp .ge 13, 3) := by decide +kernel
theorem dJ7_fill_53178_10 : decode cJ7_fill_53178 10 = .ok (.aload_n 0, 1) := by decide +kernel
theorem dJ7_fill_53178_11 : decode cJ7_fill_53178 11 = .ok (.iload_n 2, 1) := by decide +kernel
theorem dJ7_fill_53178_12 : decode cJ7_fill_53178 12 = .ok (.iload_n 1, 1) := by decide +kernel
theorem dJ7_fill_53178_13 : decode cJ7_fill_53178 13 = .ok (.iastore, 1) := by decide +kernel
theorem dJ7_fill_53178_14 : decode cJ7_fill_53178 14 = .ok (.iinc 2 1, 3) := by decide +kernel
theorem dJ7_fill_53178_17 : decode cJ7_fill_53178 17 = .ok (.goto (-12), 3) := by decide +kernel
theorem dJ7_fill_53178_20 : decode cJ7_fill_53178 20 = .ok (.return_, 1) := by decide +kernel
theorem dJ9_max_7cf53_0 : decode cJ9_max_7cf53 0 = .ok (.iload_n 0, 1) := by decide +kernel
theorem dJ9_max_7cf53_1 : decode cJ9_max_7cf53 1 = .ok (.iload_n 1, 1) := by decide +kernel
theorem dJ9_max_7cf53_2 : decode cJ9_max_7cf53 2 = .ok (.if_icmp .lt 7, 3) := by decide +kernel
theorem dJ9_max_7cf53_5 : decode cJ9_max_7cf53 5 = .ok (.iload_n 0, 1) := by decide +kernel
theorem dJ9_max_7cf53_6 : decode cJ9_max_7cf53 6 = .ok (.goto 4, 3) := by decide +kernel
theorem dJ9_max_7cf53_9 : decode cJ9_max_7cf53 9 = .ok (.iload_n 1, 1) := by decide +kernel
theorem dJ9_max_7cf53_10 : decode cJ9_max_7cf53 10 = .ok (.ireturn, 1) := by decide +kernel
theorem dJ9_min_7cf53_0 : decode cJ9_min_7cf53 0 = .ok (.iload_n 0, 1) := by decide +kernel
theorem dJ9_min_7cf53_1 : decode cJ9_min_7cf53 1 = .ok (.iload_n 1, 1) := by decide +kernel
theorem dJ9_min_7cf53_2 : decode cJ9_min_7cf53 2 = .ok (.if_icmp .gt 7, 3) := by decide +kernel
theorem dJ9_min_7cf53_5 : decode cJ9_min_7cf53 5 = .ok (.iload_n 0, 1) := by decide +kernel
theorem dJ9_min_7cf53_6 : decode cJ9_min_7cf53 6 = .ok (.goto 4, 3) := by decide +kernel
theorem dJ9_min_7cf53_9 : decode cJ9_min_7cf53 9 = .ok (.iload_n 1, 1) := by decide +kernel
theorem dJ9_min_7cf53_10 : decode cJ9_min_7cf53 10 = .ok (.ireturn, 1) := by decide +kernel
theorem dX0_init_0 : decode cX0_init 0 = .ok (.aload_n 0, 1) := by decide +kernel
theorem dX0_init_1 : decode cX0_init 1 = .ok (.invokespecial 3, 3) := by decide +kernel
theorem dX0_init_4 : decode cX0_init 4 = .ok (.return_, 1) := by decide +kernel
theorem dX0_become_0 : decode cX0_become 0 = .ok (.aload_n 0, 1) := by decide +kernel
theorem dX0_become_1 : decode cX0_become 1 = .ok (.iload_n 1, 1) := by decide +kernel
theorem dX0_become_2 : decode cX0_become 2 = .ok (.putfield 9, 3) := by decide +kernel
theorem dX0_become_5 : decode cX0_become 5 = .ok (.aload_n 0, 1) := by decide +kernel
theorem dX0_become_6 : decode cX0_become 6 = .ok (.iload_n 2, 1) := by decide +kernel
theorem dX0_become_7 : decode cX0_become 7 = .ok (.putfield 15, 3) := by decide +kernel
theorem dX0_become_10 : decode cX0_become 10 = .ok (.aload_n 0, 1) := by decide +kernel
theorem dX0_become_11 : decode cX0_become 11 = .ok (.iload_n 3, 1) := by decide +kernel
theorem dX0_become_12 : decode cX0_become 12 = .ok (.putfield 18, 3) := by decide +kernel
theorem dX0_become_15 : decode cX0_become 15 = .ok (.aload_n 0, 1) := by decide +kernel
theorem dX0_become_16 : decode cX0_become 16 = .ok (.iload 4, 2) := by decide +kernel
theorem dX0_become_18 : decode cX0_become 18 = .ok (.putfield 21, 3) := by decide +kernel
theorem dX0_become_21 : decode cX0_become 21 = .ok (.aload_n 0, 1) := by decide +kernel
theorem dX0_become_22 : decode cX0_become 22 = .ok (.iload 5, 2) := by decide +kernel
theorem dX0_become_24 : decode cX0_become 24 = .ok (.putfield 24, 3) := by decide +kernel
theorem dX0_become_27 : decode cX0_become 27 = .ok (.return_, 1) := by decide +kernel
theorem dX0_writes_0 : decode cX0_writes 0 = .ok (.aload_n 0, 1) := by decide +kernel
theorem dX0_writes_1 : decode cX0_writes 1 = .ok (.getfield 9, 3) := by decide +kernel
theorem dX0_writes_4 : decode cX0_writes 4 = .ok (.ifCond .eq 11, 3) := by decide +kernel
theorem dX0_writes_7 : decode cX0_writes 7 = .ok (.aload_n 0, 1) := by decide +kernel
theorem dX0_writes_8 : decode cX0_writes 8 = .ok (.getfield 9, 3) := by decide +kernel
theorem dX0_writes_11 : decode cX0_writes 11 = .ok (.iconst 1, 1) := by decide +kernel
theorem dX0_writes_12 : decode cX0_writes 12 = .ok (.if_icmp .ne 7, 3) := by decide +kernel
theorem dX0_writes_15 : decode cX0_writes 15 = .ok (.iconst 1, 1) := by decide +kernel
theorem dX0_writes_16 : decode cX0_writes 16 = .ok (.goto 4, 3) := by decide +kernel
theorem dX0_writes_19 : decode cX0_writes 19 = .ok (.iconst 0, 1) := by decide +kernel
theorem dX0_writes_20 : decode cX0_writes 20 = .ok (.ireturn, 1) := by decide +kernel
theorem dX0_endsEpoch_0 : decode cX0_endsEpoch 0 = .ok (.aload_n 0, 1) := by decide +kernel
theorem dX0_endsEpoch_1 : decode cX0_endsEpoch 1 = .ok (.getfield 9, 3) := by decide +kernel
theorem dX0_endsEpoch_4 : decode cX0_endsEpoch 4 = .ok (.iconst 2, 1) := by decide +kernel
theorem dX0_endsEpoch_5 : decode cX0_endsEpoch 5 = .ok (.if_icmp .eq 11, 3) := by decide +kernel
theorem dX0_endsEpoch_8 : decode cX0_endsEpoch 8 = .ok (.aload_n 0, 1) := by decide +kernel
theorem dX0_endsEpoch_9 : decode cX0_endsEpoch 9 = .ok (.getfield 9, 3) := by decide +kernel
theorem dX0_endsEpoch_12 : decode cX0_endsEpoch 12 = .ok (.iconst 3, 1) := by decide +kernel
theorem dX0_endsEpoch_13 : decode cX0_endsEpoch 13 = .ok (.if_icmp .ne 7, 3) := by decide +kernel
theorem dX0_endsEpoch_16 : decode cX0_endsEpoch 16 = .ok (.iconst 1, 1) := by decide +kernel
theorem dX0_endsEpoch_17 : decode cX0_endsEpoch 17 = .ok (.goto 4, 3) := by decide +kernel
theorem dX0_endsEpoch_20 : decode cX0_endsEpoch 20 = .ok (.iconst 0, 1) := by decide +kernel
theorem dX0_endsEpoch_21 : decode cX0_endsEpoch 21 = .ok (.ireturn, 1) := by decide +kernel
theorem dX0_part_0 : decode cX0_part 0 = .ok (.iload_n 1, 1) := by decide +kernel
theorem dX0_part_1 : decode cX0_part 1 = .ok (.tableswitch 51 0 3 #[31, 36, 41, 46], 31) := by decide +kernel
theorem dX0_part_32 : decode cX0_part 32 = .ok (.aload_n 0, 1) := by decide +kernel
theorem dX0_part_33 : decode cX0_part 33 = .ok (.getfield 9, 3) := by decide +kernel
theorem dX0_part_36 : decode cX0_part 36 = .ok (.ireturn, 1) := by decide +kernel
theorem dX0_part_37 : decode cX0_part 37 = .ok (.aload_n 0, 1) := by decide +kernel
theorem dX0_part_38 : decode cX0_part 38 = .ok (.getfield 15, 3) := by decide +kernel
theorem dX0_part_41 : decode cX0_part 41 = .ok (.ireturn, 1) := by decide +kernel
theorem dX0_part_42 : decode cX0_part 42 = .ok (.aload_n 0, 1) := by decide +kernel
theorem dX0_part_43 : decode cX0_part 43 = .ok (.getfield 18, 3) := by decide +kernel
theorem dX0_part_46 : decode cX0_part 46 = .ok (.ireturn, 1) := by decide +kernel
theorem dX0_part_47 : decode cX0_part 47 = .ok (.aload_n 0, 1) := by decide +kernel
theorem dX0_part_48 : decode cX0_part 48 = .ok (.getfield 21, 3) := by decide +kernel
theorem dX0_part_51 : decode cX0_part 51 = .ok (.ireturn, 1) := by decide +kernel
theorem dX0_part_52 : decode cX0_part 52 = .ok (.aload_n 0, 1) := by decide +kernel
theorem dX0_part_53 : decode cX0_part 53 = .ok (.getfield 24, 3) := by decide +kernel
theorem dX0_part_56 : decode cX0_part 56 = .ok (.ireturn, 1) := by decide +kernel
theorem dX0_sectorBits_0 : decode cX0_sectorBits 0 = .ok (.aload_n 0, 1) := by decide +kernel
theorem dX0_sectorBits_1 : decode cX0_sectorBits 1 = .ok (.getfield 9, 3) := by decide +kernel
theorem dX0_sectorBits_4 : decode cX0_sectorBits 4 = .ok (.iconst 1, 1) := by decide +kernel
theorem dX0_sectorBits_5 : decode cX0_sectorBits 5 = .ok (.if_icmp .ne 19, 3) := by decide +kernel
theorem dX0_sectorBits_8 : decode cX0_sectorBits 8 = .ok (.iconst 1, 1) := by decide +kernel
theorem dX0_sectorBits_9 : decode cX0_sectorBits 9 = .ok (.aload_n 0, 1) := by decide +kernel
theorem dX0_sectorBits_10 : decode cX0_sectorBits 10 = .ok (.getfield 15, 3) := by decide +kernel
theorem dX0_sectorBits_13 : decode cX0_sectorBits 13 = .ok (.ishl, 1) := by decide +kernel
theorem dX0_sectorBits_14 : decode cX0_sectorBits 14 = .ok (.iconst 1, 1) := by decide +kernel
theorem dX0_sectorBits_15 : decode cX0_sectorBits 15 = .ok (.aload_n 0, 1) := by decide +kernel
theorem dX0_sectorBits_16 : decode cX0_sectorBits 16 = .ok (.getfield 21, 3) := by decide +kernel
theorem dX0_sectorBits_19 : decode cX0_sectorBits 19 = .ok (.ishl, 1) := by decide +kernel
theorem dX0_sectorBits_20 : decode cX0_sectorBits 20 = .ok (.ior, 1) := by decide +kernel
theorem dX0_sectorBits_21 : decode cX0_sectorBits 21 = .ok (.goto 9, 3) := by decide +kernel
theorem dX0_sectorBits_24 : decode cX0_sectorBits 24 = .ok (.iconst 1, 1) := by decide +kernel
theorem dX0_sectorBits_25 : decode cX0_sectorBits 25 = .ok (.aload_n 0, 1) := by decide +kernel
theorem dX0_sectorBits_26 : decode cX0_sectorBits 26 = .ok (.getfield 15, 3) := by decide +kernel
theorem dX0_sectorBits_29 : decode cX0_sectorBits 29 = .ok (.ishl, 1) := by decide +kernel
theorem dX0_sectorBits_30 : decode cX0_sectorBits 30 = .ok (.ireturn, 1) := by decide +kernel
theorem dX0_laidOn_0 : decode cX0_laidOn 0 = .ok (.lload_n 1, 1) := by decide +kernel
theorem dX0_laidOn_1 : decode cX0_laidOn 1 = .ok (.aload_n 0, 1) := by decide +kernel
theorem dX0_laidOn_2 : decode cX0_laidOn 2 = .ok (.getfield 15, 3) := by decide +kernel
theorem dX0_laidOn_5 : decode cX0_laidOn 5 = .ok (.aload_n 0, 1) := by decide +kernel
theorem dX0_laidOn_6 : decode cX0_laidOn 6 = .ok (.getfield 18, 3) := by decide +kernel
theorem dX0_laidOn_9 : decode cX0_laidOn 9 = .ok (.invokestatic 27, 3) := by decide +kernel
theorem dX0_laidOn_12 : decode cX0_laidOn 12 = .ok (.lstore_n 3, 1) := by decide +kernel
theorem dX0_laidOn_13 : decode cX0_laidOn 13 = .ok (.aload_n 0, 1) := by decide +kernel
theorem dX0_laidOn_14 : decode cX0_laidOn 14 = .ok (.getfield 9, 3) := by decide +kernel
theorem dX0_laidOn_17 : decode cX0_laidOn 17 = .ok (.iconst 1, 1) := by decide +kernel
theorem dX0_laidOn_18 : decode cX0_laidOn 18 = .ok (.if_icmp .ne 18, 3) := by decide +kernel
theorem dX0_laidOn_21 : decode cX0_laidOn 21 = .ok (.lload_n 3, 1) := by decide +kernel
theorem dX0_laidOn_22 : decode cX0_laidOn 22 = .ok (.aload_n 0, 1) := by decide +kernel
theorem dX0_laidOn_23 : decode cX0_laidOn 23 = .ok (.getfield 21, 3) := by decide +kernel
theorem dX0_laidOn_26 : decode cX0_laidOn 26 = .ok (.aload_n 0, 1) := by decide +kernel
theorem dX0_laidOn_27 : decode cX0_laidOn 27 = .ok (.getfield 24, 3) := by decide +kernel
theorem dX0_laidOn_30 : decode cX0_laidOn 30 = .ok (.invokestatic 27, 3) := by decide +kernel
theorem dX0_laidOn_33 : decode cX0_laidOn 33 = .ok (.goto 4, 3) := by decide +kernel
theorem dX0_laidOn_36 : decode cX0_laidOn 36 = .ok (.lload_n 3, 1) := by decide +kernel
theorem dX0_laidOn_37 : decode cX0_laidOn 37 = .ok (.lreturn, 1) := by decide +kernel
theorem dX1_init_0 : decode cX1_init 0 = .ok (.aload_n 0, 1) := by decide +kernel
theorem dX1_init_1 : decode cX1_init 1 = .ok (.invokespecial 3, 3) := by decide +kernel
theorem dX1_init_4 : decode cX1_init 4 = .ok (.aload_n 0, 1) := by decide +kernel
theorem dX1_init_5 : decode cX1_init 5 = .ok (.sipush 4096, 3) := by decide +kernel
theorem dX1_init_8 : decode cX1_init 8 = .ok (.newarray .long, 2) := by decide +kernel
theorem dX1_init_10 : decode cX1_init 10 = .ok (.putfield 9, 3) := by decide +kernel
theorem dX1_init_13 : decode cX1_init 13 = .ok (.aload_n 0, 1) := by decide +kernel
theorem dX1_init_14 : decode cX1_init 14 = .ok (.sipush 4096, 3) := by decide +kernel
theorem dX1_init_17 : decode cX1_init 17 = .ok (.newarray .int, 2) := by decide +kernel
theorem dX1_init_19 : decode cX1_init 19 = .ok (.putfield 15, 3) := by decide +kernel
theorem dX1_init_22 : decode cX1_init 22 = .ok (.aload_n 0, 1) := by decide +kernel
theorem dX1_init_23 : decode cX1_init 23 = .ok (.iconst 0, 1) := by decide +kernel
theorem dX1_init_24 : decode cX1_init 24 = .ok (.putfield 19, 3) := by decide +kernel
theorem dX1_init_27 : decode cX1_init 27 = .ok (.aload_n 0, 1) := by decide +kernel
theorem dX1_init_28 : decode cX1_init 28 = .ok (.iconst (-1), 1) := by decide +kernel
theorem dX1_init_29 : decode cX1_init 29 = .ok (.putfield 23, 3) := by decide +kernel
theorem dX1_init_32 : decode cX1_init 32 = .ok (.return_, 1) := by decide +kernel
theorem dX1_forget_0 : decode cX1_forget 0 = .ok (.aload_n 0, 1) := by decide +kernel
theorem dX1_forget_1 : decode cX1_forget 1 = .ok (.iconst (-1), 1) := by decide +kernel
theorem dX1_forget_2 : decode cX1_forget 2 = .ok (.putfield 23, 3) := by decide +kernel
theorem dX1_forget_5 : decode cX1_forget 5 = .ok (.return_, 1) := by decide +kernel
theorem dX1_fill_0 : decode cX1_fill 0 = .ok (.aload_n 0, 1) := by decide +kernel
theorem dX1_fill_1 : decode cX1_fill 1 = .ok (.getfield 23, 3) := by decide +kernel
theorem dX1_fill_4 : decode cX1_fill 4 = .ok (.iload_n 2, 1) := by decide +kernel
theorem dX1_fill_5 : decode cX1_fill 5 = .ok (.if_icmp .ne 4, 3) := by decide +kernel
theorem dX1_fill_8 : decode cX1_fill 8 = .ok (.return_, 1) := by decide +kernel
theorem dX1_fill_9 : decode cX1_fill 9 = .ok (.aload_n 0, 1) := by decide +kernel
theorem dX1_fill_10 : decode cX1_fill 10 = .ok (.aload_n 1, 1) := by decide +kernel
theorem dX1_fill_11 : decode cX1_fill 11 = .ok (.iload_n 2, 1) := by decide +kernel
theorem dX1_fill_12 : decode cX1_fill 12 = .ok (.invokevirtual 26, 3) := by decide +kernel
theorem dX1_fill_15 : decode cX1_fill 15 = .ok (.aload_n 0, 1) := by decide +kernel
theorem dX1_fill_16 : decode cX1_fill 16 = .ok (.invokevirtual 30, 3) := by decide +kernel
theorem dX1_fill_19 : decode cX1_fill 19 = .ok (.aload_n 0, 1) := by decide +kernel
theorem dX1_fill_20 : decode cX1_fill 20 = .ok (.invokevirtual 33, 3) := by decide +kernel
theorem dX1_fill_23 : decode cX1_fill 23 = .ok (.aload_n 0, 1) := by decide +kernel
theorem dX1_fill_24 : decode cX1_fill 24 = .ok (.iload_n 2, 1) := by decide +kernel
theorem dX1_fill_25 : decode cX1_fill 25 = .ok (.putfield 23, 3) := by decide +kernel
theorem dX1_fill_28 : decode cX1_fill 28 = .ok (.return_, 1) := by decide +kernel
theorem dX1_gather_0 : decode cX1_gather 0 = .ok (.aload_n 1, 1) := by decide +kernel
theorem dX1_gather_1 : decode cX1_gather 1 = .ok (.iload_n 2, 1) := by decide +kernel
theorem dX1_gather_2 : decode cX1_gather 2 = .ok (.invokevirtual 36, 3) := by decide +kernel
theorem dX1_gather_5 : decode cX1_gather 5 = .ok (.istore_n 3, 1) := by decide +kernel
theorem dX1_gather_6 : decode cX1_gather 6 = .ok (.aload_n 1, 1) := by decide +kernel
theorem dX1_gather_7 : decode cX1_gather 7 = .ok (.iconst 0, 1) := by decide +kernel
theorem dX1_gather_8 : decode cX1_gather 8 = .ok (.iload_n 3, 1) := by decide +kernel
theorem dX1_gather_9 : decode cX1_gather 9 = .ok (.invokevirtual 42, 3) := by decide +kernel
theorem dX1_gather_12 : decode cX1_gather 12 = .ok (.istore 4, 2) := by decide +kernel
theorem dX1_gather_14 : decode cX1_gather 14 = .ok (.aload_n 0, 1) := by decide +kernel
theorem dX1_gather_15 : decode cX1_gather 15 = .ok (.getfield 9, 3) := by decide +kernel
theorem dX1_gather_18 : decode cX1_gather 18 = .ok (.iconst 0, 1) := by decide +kernel
theorem dX1_gather_19 : decode cX1_gather 19 = .ok (.aload_n 1, 1) := by decide +kernel
theorem dX1_gather_20 : decode cX1_gather 20 = .ok (.iload 4, 2) := by decide +kernel
theorem dX1_gather_22 : decode cX1_gather 22 = .ok (.invokevirtual 46, 3) := by decide +kernel
theorem dX1_gather_25 : decode cX1_gather 25 = .ok (.lastore, 1) := by decide +kernel
theorem dX1_gather_26 : decode cX1_gather 26 = .ok (.aload_n 0, 1) := by decide +kernel
theorem dX1_gather_27 : decode cX1_gather 27 = .ok (.getfield 15, 3) := by decide +kernel
theorem dX1_gather_30 : decode cX1_gather 30 = .ok (.iconst 0, 1) := by decide +kernel
theorem dX1_gather_31 : decode cX1_gather 31 = .ok (.iload 4, 2) := by decide +kernel
theorem dX1_gather_33 : decode cX1_gather 33 = .ok (.iastore, 1) := by decide +kernel
theorem dX1_gather_34 : decode cX1_gather 34 = .ok (.aload_n 0, 1) := by decide +kernel
theorem dX1_gather_35 : decode cX1_gather 35 = .ok (.iconst 1, 1) := by decide +kernel
theorem dX1_gather_36 : decode cX1_gather 36 = .ok (.putfield 19, 3) := by decide +kernel
theorem dX1_gather_39 : decode cX1_gather 39 = .ok (.iconst 0, 1) := by decide +kernel
theorem dX1_gather_40 : decode cX1_gather 40 = .ok (.istore 5, 2) := by decide +kernel
theorem dX1_gather_42 : decode cX1_gather 42 = .ok (.iload_n 3, 1) := by decide +kernel
theorem dX1_gather_43 : decode cX1_gather 43 = .ok (.istore 6, 2) := by decide +kernel
theorem dX1_gather_45 : decode cX1_gather 45 = .ok (.iload 6, 2) := by decide +kernel
theorem dX1_gather_47 : decode cX1_gather 47 = .ok (.iload_n 2, 1) := by decide +kernel
theorem dX1_gather_48 : decode cX1_gather 48 = .ok (.if_icmp .ge 56, 3) := by decide +kernel
theorem dX1_gather_51 : decode cX1_gather 51 = .ok (.aload_n 1, 1) := by decide +kernel
theorem dX1_gather_52 : decode cX1_gather 52 = .ok (.getfield 50, 3) := by decide +kernel
theorem dX1_gather_55 : decode cX1_gather 55 = .ok (.iload 6, 2) := by decide +kernel
theorem dX1_gather_57 : decode cX1_gather 57 = .ok (.aaload, 1) := by decide +kernel
theorem dX1_gather_58 : decode cX1_gather 58 = .ok (.astore 7, 2) := by decide +kernel
theorem dX1_gather_60 : decode cX1_gather 60 = .ok (.aload 7, 2) := by decide +kernel
theorem dX1_gather_62 : decode cX1_gather 62 = .ok (.invokevirtual 54, 3) := by decide +kernel
theorem dX1_gather_65 : decode cX1_gather 65 = .ok (.ifCond .eq 16, 3) := by decide +kernel
theorem dX1_gather_68 : decode cX1_gather 68 = .ok (.aload_n 0, 1) := by decide +kernel
theorem dX1_gather_69 : decode cX1_gather 69 = .ok (.aload 7, 2) := by decide +kernel
theorem dX1_gather_71 : decode cX1_gather 71 = .ok (.iload 6, 2) := by decide +kernel
theorem dX1_gather_73 : decode cX1_gather 73 = .ok (.iload 5, 2) := by decide +kernel
theorem dX1_gather_75 : decode cX1_gather 75 = .ok (.invokevirtual 60, 3) := by decide +kernel
theorem dX1_gather_78 : decode cX1_gather 78 = .ok (.goto 20, 3) := by decide +kernel
theorem dX1_gather_81 : decode cX1_gather 81 = .ok (.aload 7, 2) := by decide +kernel
theorem dX1_gather_83 : decode cX1_gather 83 = .ok (.getfield 64, 3) := by decide +kernel
theorem dX1_gather_86 : decode cX1_gather 86 = .ok (.iconst 2, 1) := by decide +kernel
theorem dX1_gather_87 : decode cX1_gather 87 = .ok (.if_icmp .ne 11, 3) := by decide +kernel
theorem dX1_gather_90 : decode cX1_gather 90 = .ok (.aload_n 0, 1) := by decide +kernel
theorem dX1_gather_91 : decode cX1_gather 91 = .ok (.getfield 19, 3) := by decide +kernel
theorem dX1_gather_94 : decode cX1_gather 94 = .ok (.iconst 1, 1) := by decide +kernel
theorem dX1_gather_95 : decode cX1_gather 95 = .ok (.isub, 1) := by decide +kernel
theorem dX1_gather_96 : decode cX1_gather 96 = .ok (.istore 5, 2) := by decide +kernel
theorem dX1_gather_98 : decode cX1_gather 98 = .ok (.iinc 6 1, 3) := by decide +kernel
theorem dX1_gather_101 : decode cX1_gather 101 = .ok (.goto (-56), 3) := by decide +kernel
theorem dX1_gather_104 : decode cX1_gather 104 = .ok (.return_, 1) := by decide +kernel
theorem dX1_addReaching_0 : decode cX1_addReaching 0 = .ok (.aload_n 0, 1) := by decide +kernel
theorem dX1_addReaching_1 : decode cX1_addReaching 1 = .ok (.getfield 19, 3) := by decide +kernel
theorem dX1_addReaching_4 : decode cX1_addReaching 4 = .ok (.istore 4, 2) := by decide +kernel
theorem dX1_addReaching_6 : decode cX1_addReaching 6 = .ok (.iload_n 3, 1) := by decide +kernel
theorem dX1_addReaching_7 : decode cX1_addReaching 7 = .ok (.istore 5, 2) := by decide +kernel
theorem dX1_addReaching_9 : decode cX1_addReaching 9 = .ok (.iload 5, 2) := by decide +kernel
theorem dX1_addReaching_11 : decode cX1_addReaching 11 = .ok (.iload 4, 2) := by decide +kernel
theorem dX1_addReaching_13 : decode cX1_addReaching 13 = .ok (.if_icmp .ge 69, 3) := by decide +kernel
theorem dX1_addReaching_16 : decode cX1_addReaching 16 = .ok (.aload_n 0, 1) := by decide +kernel
theorem dX1_addReaching_17 : decode cX1_addReaching 17 = .ok (.getfield 19, 3) := by decide +kernel
theorem dX1_addReaching_20 : decode cX1_addReaching 20 = .ok (.sipush 4096, 3) := by decide +kernel
theorem dX1_addReaching_23 : decode cX1_addReaching 23 = .ok (.if_icmp .ge 59, 3) := by decide +kernel
theorem dX1_addReaching_26 : decode cX1_addReaching 26 = .ok (.aload_n 0, 1) := by decide +kernel
theorem dX1_addReaching_27 : decode cX1_addReaching 27 = .ok (.getfield 9, 3) := by decide +kernel
theorem dX1_addReaching_30 : decode cX1_addReaching 30 = .ok (.aload_n 0, 1) := by decide +kernel
theorem dX1_addReaching_31 : decode cX1_addReaching 31 = .ok (.getfield 19, 3) := by decide +kernel
theorem dX1_addReaching_34 : decode cX1_addReaching 34 = .ok (.aload_n 1, 1) := by decide +kernel
theorem dX1_addReaching_35 : decode cX1_addReaching 35 = .ok (.aload_n 0, 1) := by decide +kernel
theorem dX1_addReaching_36 : decode cX1_addReaching 36 = .ok (.getfield 9, 3) := by decide +kernel
theorem dX1_addReaching_39 : decode cX1_addReaching 39 = .ok (.iload 5, 2) := by decide +kernel
theorem dX1_addReaching_41 : decode cX1_addReaching 41 = .ok (.laload, 1) := by decide +kernel
theorem dX1_addReaching_42 : decode cX1_addReaching 42 = .ok (.invokevirtual 66, 3) := by decide +kernel
theorem dX1_addReaching_45 : decode cX1_addReaching 45 = .ok (.lastore, 1) := by decide +kernel
theorem dX1_addReaching_46 : decode cX1_addReaching 46 = .ok (.aload_n 0, 1) := by decide +kernel
theorem dX1_addReaching_47 : decode cX1_addReaching 47 = .ok (.getfield 15, 3) := by decide +kernel
theorem dX1_addReaching_50 : decode cX1_addReaching 50 = .ok (.aload_n 0, 1) := by decide +kernel
theorem dX1_addReaching_51 : decode cX1_addReaching 51 = .ok (.getfield 19, 3) := by decide +kernel
theorem dX1_addReaching_54 : decode cX1_addReaching 54 = .ok (.aload_n 0, 1) := by decide +kernel
theorem dX1_addReaching_55 : decode cX1_addReaching 55 = .ok (.getfield 15, 3) := by decide +kernel
theorem dX1_addReaching_58 : decode cX1_addReaching 58 = .ok (.iload 5, 2) := by decide +kernel
theorem dX1_addReaching_60 : decode cX1_addReaching 60 = .ok (.iaload, 1) := by decide +kernel
theorem dX1_addReaching_61 : decode cX1_addReaching 61 = .ok (.iconst 1, 1) := by decide +kernel
theorem dX1_addReaching_62 : decode cX1_addReaching 62 = .ok (.iload_n 2, 1) := by decide +kernel
theorem dX1_addReaching_63 : decode cX1_addReaching 63 = .ok (.ishl, 1) := by decide +kernel
theorem dX1_addReaching_64 : decode cX1_addReaching 64 = .ok (.ior, 1) := by decide +kernel
theorem dX1_addReaching_65 : decode cX1_addReaching 65 = .ok (.iastore, 1) := by decide +kernel
theorem dX1_addReaching_66 : decode cX1_addReaching 66 = .ok (.aload_n 0, 1) := by decide +kernel
theorem dX1_addReaching_67 : decode cX1_addReaching 67 = .ok (.dup, 1) := by decide +kernel
theorem dX1_addReaching_68 : decode cX1_addReaching 68 = .ok (.getfield 19, 3) := by decide +kernel
theorem dX1_addReaching_71 : decode cX1_addReaching 71 = .ok (.iconst 1, 1) := by decide +kernel
theorem dX1_addReaching_72 : decode cX1_addReaching 72 = .ok (.iadd, 1) := by decide +kernel
theorem dX1_addReaching_73 : decode cX1_addReaching 73 = .ok (.putfield 19, 3) := by decide +kernel
theorem dX1_addReaching_76 : decode cX1_addReaching 76 = .ok (.iinc 5 1, 3) := by decide +kernel
theorem dX1_addReaching_79 : decode cX1_addReaching 79 = .ok (.goto (-70), 3) := by decide +kernel
theorem dX1_addReaching_82 : decode cX1_addReaching 82 = .ok (.return_, 1) := by decide +kernel
theorem dX1_sort_0 : decode cX1_sort 0 = .ok (.aload_n 0, 1) := by decide +kernel
theorem dX1_sort_1 : decode cX1_sort 1 = .ok (.getfield 19, 3) := by decide +kernel
theorem dX1_sort_4 : decode cX1_sort 4 = .ok (.iconst 2, 1) := by decide +kernel
theorem dX1_sort_5 : decode cX1_sort 5 = .ok (.idiv, 1) := by decide +kernel
theorem dX1_sort_6 : decode cX1_sort 6 = .ok (.istore_n 1, 1) := by decide +kernel
theorem dX1_sort_7 : decode cX1_sort 7 = .ok (.iload_n 1, 1) := by decide +kernel
theorem dX1_sort_8 : decode cX1_sort 8 = .ok (.ifCond .le 44, 3) := by decide +kernel
theorem dX1_sort_11 : decode cX1_sort 11 = .ok (.iload_n 1, 1) := by decide +kernel
theorem dX1_sort_12 : decode cX1_sort 12 = .ok (.istore_n 2, 1) := by decide +kernel
theorem dX1_sort_13 : decode cX1_sort 13 = .ok (.iload_n 2, 1) := by decide +kernel
theorem dX1_sort_14 : decode cX1_sort 14 = .ok (.aload_n 0, 1) := by decide +kernel
theorem dX1_sort_15 : decode cX1_sort 15 = .ok (.getfield 19, 3) := by decide +kernel
theorem dX1_sort_18 : decode cX1_sort 18 = .ok (.if_icmp .ge 15, 3) := by decide +kernel
theorem dX1_sort_21 : decode cX1_sort 21 = .ok (.aload_n 0, 1) := by decide +kernel
theorem dX1_sort_22 : decode cX1_sort 22 = .ok (.iload_n 2, 1) := by decide +kernel
theorem dX1_sort_23 : decode cX1_sort 23 = .ok (.iload_n 1, 1) := by decide +kernel
theorem dX1_sort_24 : decode cX1_sort 24 = .ok (.invokevirtual 70, 3) := by decide +kernel
theorem dX1_sort_27 : decode cX1_sort 27 = .ok (.iinc 2 1, 3) := by decide +kernel
theorem dX1_sort_30 : decode cX1_sort 30 = .ok (.goto (-17), 3) := by decide +kernel
theorem dX1_sort_33 : decode cX1_sort 33 = .ok (.iload_n 1, 1) := by decide +kernel
theorem dX1_sort_34 : decode cX1_sort 34 = .ok (.iconst 2, 1) := by decide +kernel
theorem dX1_sort_35 : decode cX1_sort 35 = .ok (.if_icmp .ne 7, 3) := by decide +kernel
theorem dX1_sort_38 : decode cX1_sort 38 = .ok (.iconst 1, 1) := by decide +kernel
theorem dX1_sort_39 : decode cX1_sort 39 = .ok (.goto 9, 3) := by decide +kernel
theorem dX1_sort_42 : decode cX1_sort 42 = .ok (.iload_n 1, 1) := by decide +kernel
theorem dX1_sort_43 : decode cX1_sort 43 = .ok (.iconst 5, 1) := by decide +kernel
theorem dX1_sort_44 : decode cX1_sort 44 = .ok (.imul, 1) := by decide +kernel
theorem dX1_sort_45 : decode cX1_sort 45 = .ok (.bipush 11, 2) := by decide +kernel
theorem dX1_sort_47 : decode cX1_sort 47 = .ok (.idiv, 1) := by decide +kernel
theorem dX1_sort_48 : decode cX1_sort 48 = .ok (.istore_n 1, 1) := by decide +kernel
theorem dX1_sort_49 : decode cX1_sort 49 = .ok (.goto (-42), 3) := by decide +kernel
theorem dX1_sort_52 : decode cX1_sort 52 = .ok (.return_, 1) := by decide +kernel
theorem dX1_sink_0 : decode cX1_sink 0 = .ok (.aload_n 0, 1) := by decide +kernel
theorem dX1_sink_1 : decode cX1_sink 1 = .ok (.getfield 9, 3) := by decide +kernel
theorem dX1_sink_4 : decode cX1_sink 4 = .ok (.iload_n 1, 1) := by decide +kernel
theorem dX1_sink_5 : decode cX1_sink 5 = .ok (.laload, 1) := by decide +kernel
theorem dX1_sink_6 : decode cX1_sink 6 = .ok (.lstore_n 3, 1) := by decide +kernel
theorem dX1_sink_7 : decode cX1_sink 7 = .ok (.aload_n 0, 1) := by decide +kernel
theorem dX1_sink_8 : decode cX1_sink 8 = .ok (.getfield 15, 3) := by decide +kernel
theorem dX1_sink_11 : decode cX1_sink 11 = .ok (.iload_n 1, 1) := by decide +kernel
theorem dX1_sink_12 : decode cX1_sink 12 = .ok (.iaload, 1) := by decide +kernel
theorem dX1_sink_13 : decode cX1_sink 13 = .ok (.istore 5, 2) := by decide +kernel
theorem dX1_sink_15 : decode cX1_sink 15 = .ok (.iload_n 1, 1) := by decide +kernel
theorem dX1_sink_16 : decode cX1_sink 16 = .ok (.istore 6, 2) := by decide +kernel
theorem dX1_sink_18 : decode cX1_sink 18 = .ok (.iload 6, 2) := by decide +kernel
theorem dX1_sink_20 : decode cX1_sink 20 = .ok (.iload_n 2, 1) := by decide +kernel
theorem dX1_sink_21 : decode cX1_sink 21 = .ok (.if_icmp .lt 86, 3) := by decide +kernel
theorem dX1_sink_24 : decode cX1_sink 24 = .ok (.aload_n 0, 1) := by decide +kernel
theorem dX1_sink_25 : decode cX1_sink 25 = .ok (.getfield 9, 3) := by decide +kernel
theorem dX1_sink_28 : decode cX1_sink 28 = .ok (.iload 6, 2) := by decide +kernel
theorem dX1_sink_30 : decode cX1_sink 30 = .ok (.iload_n 2, 1) := by decide +kernel
theorem dX1_sink_31 : decode cX1_sink 31 = .ok (.isub, 1) := by decide +kernel
theorem dX1_sink_32 : decode cX1_sink 32 = .ok (.laload, 1) := by decide +kernel
theorem dX1_sink_33 : decode cX1_sink 33 = .ok (.lload_n 3, 1) := by decide +kernel
theorem dX1_sink_34 : decode cX1_sink 34 = .ok (.lcmp, 1) := by decide +kernel
theorem dX1_sink_35 : decode cX1_sink 35 = .ok (.ifCond .gt 31, 3) := by decide +kernel
theorem dX1_sink_38 : decode cX1_sink 38 = .ok (.aload_n 0, 1) := by decide +kernel
theorem dX1_sink_39 : decode cX1_sink 39 = .ok (.getfield 9, 3) := by decide +kernel
theorem dX1_sink_42 : decode cX1_sink 42 = .ok (.iload 6, 2) := by decide +kernel
theorem dX1_sink_44 : decode cX1_sink 44 = .ok (.iload_n 2, 1) := by decide +kernel
theorem dX1_sink_45 : decode cX1_sink 45 = .ok (.isub, 1) := by decide +kernel
theorem dX1_sink_46 : decode cX1_sink 46 = .ok (.laload, 1) := by decide +kernel
theorem dX1_sink_47 : decode cX1_sink 47 = .ok (.lload_n 3, 1) := by decide +kernel
theorem dX1_sink_48 : decode cX1_sink 48 = .ok (.lcmp, 1) := by decide +kernel
theorem dX1_sink_49 : decode cX1_sink 49 = .ok (.ifCond .ne 58, 3) := by decide +kernel
theorem dX1_sink_52 : decode cX1_sink 52 = .ok (.aload_n 0, 1) := by decide +kernel
theorem dX1_sink_53 : decode cX1_sink 53 = .ok (.getfield 15, 3) := by decide +kernel
theorem dX1_sink_56 : decode cX1_sink 56 = .ok (.iload 6, 2) := by decide +kernel
theorem dX1_sink_58 : decode cX1_sink 58 = .ok (.iload_n 2, 1) := by decide +kernel
theorem dX1_sink_59 : decode cX1_sink 59 = .ok (.isub, 1) := by decide +kernel
theorem dX1_sink_60 : decode cX1_sink 60 = .ok (.iaload, 1) := by decide +kernel
theorem dX1_sink_61 : decode cX1_sink 61 = .ok (.iload 5, 2) := by decide +kernel
theorem dX1_sink_63 : decode cX1_sink 63 = .ok (.if_icmp .le 44, 3) := by decide +kernel
theorem dX1_sink_66 : decode cX1_sink 66 = .ok (.aload_n 0, 1) := by decide +kernel
theorem dX1_sink_67 : decode cX1_sink 67 = .ok (.getfield 9, 3) := by decide +kernel
theorem dX1_sink_70 : decode cX1_sink 70 = .ok (.iload 6, 2) := by decide +kernel
theorem dX1_sink_72 : decode cX1_sink 72 = .ok (.aload_n 0, 1) := by decide +kernel
theorem dX1_sink_73 : decode cX1_sink 73 = .ok (.getfield 9, 3) := by decide +kernel
theorem dX1_sink_76 : decode cX1_sink 76 = .ok (.iload 6, 2) := by decide +kernel
theorem dX1_sink_78 : decode cX1_sink 78 = .ok (.iload_n 2, 1) := by decide +kernel
theorem dX1_sink_79 : decode cX1_sink 79 = .ok (.isub, 1) := by decide +kernel
theorem dX1_sink_80 : decode cX1_sink 80 = .ok (.laload, 1) := by decide +kernel
theorem dX1_sink_81 : decode cX1_sink 81 = .ok (.lastore, 1) := by decide +kernel
theorem dX1_sink_82 : decode cX1_sink 82 = .ok (.aload_n 0, 1) := by decide +kernel
theorem dX1_sink_83 : decode cX1_sink 83 = .ok (.getfield 15, 3) := by decide +kernel
theorem dX1_sink_86 : decode cX1_sink 86 = .ok (.iload 6, 2) := by decide +kernel
theorem dX1_sink_88 : decode cX1_sink 88 = .ok (.aload_n 0, 1) := by decide +kernel
theorem dX1_sink_89 : decode cX1_sink 89 = .ok (.getfield 15, 3) := by decide +kernel
theorem dX1_sink_92 : decode cX1_sink 92 = .ok (.iload 6, 2) := by decide +kernel
theorem dX1_sink_94 : decode cX1_sink 94 = .ok (.iload_n 2, 1) := by decide +kernel
theorem dX1_sink_95 : decode cX1_sink 95 = .ok (.isub, 1) := by decide +kernel
theorem dX1_sink_96 : decode cX1_sink 96 = .ok (.iaload, 1) := by decide +kernel
theorem dX1_sink_97 : decode cX1_sink 97 = .ok (.iastore, 1) := by decide +kernel
theorem dX1_sink_98 : decode cX1_sink 98 = .ok (.iload 6, 2) := by decide +kernel
theorem dX1_sink_100 : decode cX1_sink 100 = .ok (.iload_n 2, 1) := by decide +kernel
theorem dX1_sink_101 : decode cX1_sink 101 = .ok (.isub, 1) := by decide +kernel
theorem dX1_sink_102 : decode cX1_sink 102 = .ok (.istore 6, 2) := by decide +kernel
theorem dX1_sink_104 : decode cX1_sink 104 = .ok (.goto (-86), 3) := by decide +kernel
theorem dX1_sink_107 : decode cX1_sink 107 = .ok (.aload_n 0, 1) := by decide +kernel
theorem dX1_sink_108 : decode cX1_sink 108 = .ok (.getfield 9, 3) := by decide +kernel
theorem dX1_sink_111 : decode cX1_sink 111 = .ok (.iload 6, 2) := by decide +kernel
theorem dX1_sink_113 : decode cX1_sink 113 = .ok (.lload_n 3, 1) := by decide +kernel
theorem dX1_sink_114 : decode cX1_sink 114 = .ok (.lastore, 1) := by decide +kernel
theorem dX1_sink_115 : decode cX1_sink 115 = .ok (.aload_n 0, 1) := by decide +kernel
theorem dX1_sink_116 : decode cX1_sink 116 = .ok (.getfield 15, 3) := by decide +kernel
theorem dX1_sink_119 : decode cX1_sink 119 = .ok (.iload 6, 2) := by decide +kernel
theorem dX1_sink_121 : decode cX1_sink 121 = .ok (.iload 5, 2) := by decide +kernel
theorem dX1_sink_123 : decode cX1_sink 123 = .ok (.iastore, 1) := by decide +kernel
theorem dX1_sink_124 : decode cX1_sink 124 = .ok (.return_, 1) := by decide +kernel
theorem dX1_dropLike_0 : decode cX1_dropLike 0 = .ok (.iconst 1, 1) := by decide +kernel
theorem dX1_dropLike_1 : decode cX1_dropLike 1 = .ok (.istore_n 1, 1) := by decide +kernel
theorem dX1_dropLike_2 : decode cX1_dropLike 2 = .ok (.iconst 1, 1) := by decide +kernel
theorem dX1_dropLike_3 : decode cX1_dropLike 3 = .ok (.istore_n 2, 1) := by decide +kernel
theorem dX1_dropLike_4 : decode cX1_dropLike 4 = .ok (.iload_n 2, 1) := by decide +kernel
theorem dX1_dropLike_5 : decode cX1_dropLike 5 = .ok (.aload_n 0, 1) := by decide +kernel
theorem dX1_dropLike_6 : decode cX1_dropLike 6 = .ok (.getfield 19, 3) := by decide +kernel
theorem dX1_dropLike_9 : decode cX1_dropLike 9 = .ok (.if_icmp .ge 54, 3) := by decide +kernel
theorem dX1_dropLike_12 : decode cX1_dropLike 12 = .ok (.aload_n 0, 1) := by decide +kernel
theorem dX1_dropLike_13 : decode cX1_dropLike 13 = .ok (.getfield 9, 3) := by decide +kernel
theorem dX1_dropLike_16 : decode cX1_dropLike 16 = .ok (.iload_n 2, 1) := by decide +kernel
theorem dX1_dropLike_17 : decode cX1_dropLike 17 = .ok (.laload, 1) := by decide +kernel
theorem dX1_dropLike_18 : decode cX1_dropLike 18 = .ok (.aload_n 0, 1) := by decide +kernel
theorem dX1_dropLike_19 : decode cX1_dropLike 19 = .ok (.getfield 9, 3) := by decide +kernel
theorem dX1_dropLike_22 : decode cX1_dropLike 22 = .ok (.iload_n 1, 1) := by decide +kernel
theorem dX1_dropLike_23 : decode cX1_dropLike 23 = .ok (.iconst 1, 1) := by decide +kernel
theorem dX1_dropLike_24 : decode cX1_dropLike 24 = .ok (.isub, 1) := by decide +kernel
theorem dX1_dropLike_25 : decode cX1_dropLike 25 = .ok (.laload, 1) := by decide +kernel
theorem dX1_dropLike_26 : decode cX1_dropLike 26 = .ok (.lcmp, 1) := by decide +kernel
theorem dX1_dropLike_27 : decode cX1_dropLike 27 = .ok (.ifCond .eq 30, 3) := by decide +kernel
theorem dX1_dropLike_30 : decode cX1_dropLike 30 = .ok (.aload_n 0, 1) := by decide +kernel
theorem dX1_dropLike_31 : decode cX1_dropLike 31 = .ok (.getfield 9, 3) := by decide +kernel
theorem dX1_dropLike_34 : decode cX1_dropLike 34 = .ok (.iload_n 1, 1) := by decide +kernel
theorem dX1_dropLike_35 : decode cX1_dropLike 35 = .ok (.aload_n 0, 1) := by decide +kernel
theorem dX1_dropLike_36 : decode cX1_dropLike 36 = .ok (.getfield 9, 3) := by decide +kernel
theorem dX1_dropLike_39 : decode cX1_dropLike 39 = .ok (.iload_n 2, 1) := by decide +kernel
theorem dX1_dropLike_40 : decode cX1_dropLike 40 = .ok (.laload, 1) := by decide +kernel
theorem dX1_dropLike_41 : decode cX1_dropLike 41 = .ok (.lastore, 1) := by decide +kernel
theorem dX1_dropLike_42 : decode cX1_dropLike 42 = .ok (.aload_n 0, 1) := by decide +kernel
theorem dX1_dropLike_43 : decode cX1_dropLike 43 = .ok (.getfield 15, 3) := by decide +kernel
theorem dX1_dropLike_46 : decode cX1_dropLike 46 = .ok (.iload_n 1, 1) := by decide +kernel
theorem dX1_dropLike_47 : decode cX1_dropLike 47 = .ok (.aload_n 0, 1) := by decide +kernel
theorem dX1_dropLike_48 : decode cX1_dropLike 48 = .ok (.getfield 15, 3) := by decide +kernel
theorem dX1_dropLike_51 : decode cX1_dropLike 51 = .ok (.iload_n 2, 1) := by decide +kernel
theorem dX1_dropLike_52 : decode cX1_dropLike 52 = .ok (.iaload, 1) := by decide +kernel
theorem dX1_dropLike_53 : decode cX1_dropLike 53 = .ok (.iastore, 1) := by decide +kernel
theorem dX1_dropLike_54 : decode cX1_dropLike 54 = .ok (.iinc 1 1, 3) := by decide +kernel
theorem dX1_dropLike_57 : decode cX1_dropLike 57 = .ok (.iinc 2 1, 3) := by decide +kernel
theorem dX1_dropLike_60 : decode cX1_dropLike 60 = .ok (.goto (-56), 3) := by decide +kernel
theorem dX1_dropLike_63 : decode cX1_dropLike 63 = .ok (.aload_n 0, 1) := by decide +kernel
theorem dX1_dropLike_64 : decode cX1_dropLike 64 = .ok (.iload_n 1, 1) := by decide +kernel
theorem dX1_dropLike_65 : decode cX1_dropLike 65 = .ok (.putfield 19, 3) := by decide +kernel
theorem dX1_dropLike_68 : decode cX1_dropLike 68 = .ok (.return_, 1) := by decide +kernel
theorem dX2_init_0 : decode cX2_init 0 = .ok (.aload_n 0, 1) := by decide +kernel
theorem dX2_init_1 : decode cX2_init 1 = .ok (.invokespecial 3, 3) := by decide +kernel
theorem dX2_init_4 : decode cX2_init 4 = .ok (.aload_n 0, 1) := by decide +kernel
theorem dX2_init_5 : decode cX2_init 5 = .ok (.bipush 8, 2) := by decide +kernel
theorem dX2_init_7 : decode cX2_init 7 = .ok (.anewarray 9, 3) := by decide +kernel
theorem dX2_init_10 : decode cX2_init 10 = .ok (.putfield 11, 3) := by decide +kernel
theorem dX2_init_13 : decode cX2_init 13 = .ok (.aload_n 0, 1) := by decide +kernel
theorem dX2_init_14 : decode cX2_init 14 = .ok (.iconst 0, 1) := by decide +kernel
theorem dX2_init_15 : decode cX2_init 15 = .ok (.putfield 17, 3) := by decide +kernel
theorem dX2_init_18 : decode cX2_init 18 = .ok (.aload_n 0, 1) := by decide +kernel
theorem dX2_init_19 : decode cX2_init 19 = .ok (.bipush 8, 2) := by decide +kernel
theorem dX2_init_21 : decode cX2_init 21 = .ok (.newarray .int, 2) := by decide +kernel
theorem dX2_init_23 : decode cX2_init 23 = .ok (.putfield 21, 3) := by decide +kernel
theorem dX2_init_26 : decode cX2_init 26 = .ok (.iconst 0, 1) := by decide +kernel
theorem dX2_init_27 : decode cX2_init 27 = .ok (.istore_n 1, 1) := by decide +kernel
theorem dX2_init_28 : decode cX2_init 28 = .ok (.iload_n 1, 1) := by decide +kernel
theorem dX2_init_29 : decode cX2_init 29 = .ok (.bipush 8, 2) := by decide +kernel
theorem dX2_init_31 : decode cX2_init 31 = .ok (.if_icmp .ge 22, 3) := by decide +kernel
theorem dX2_init_34 : decode cX2_init 34 = .ok (.aload_n 0, 1) := by decide +kernel
theorem dX2_init_35 : decode cX2_init 35 = .ok (.getfield 11, 3) := by decide +kernel
theorem dX2_init_38 : decode cX2_init 38 = .ok (.iload_n 1, 1) := by decide +kernel
theorem dX2_init_39 : decode cX2_init 39 = .ok (.new 9, 3) := by decide +kernel
theorem dX2_init_42 : decode cX2_init 42 = .ok (.dup, 1) := by decide +kernel
theorem dX2_init_43 : decode cX2_init 43 = .ok (.invokespecial 25, 3) := by decide +kernel
theorem dX2_init_46 : decode cX2_init 46 = .ok (.aastore, 1) := by decide +kernel
theorem dX2_init_47 : decode cX2_init 47 = .ok (.iinc 1 1, 3) := by decide +kernel
theorem dX2_init_50 : decode cX2_init 50 = .ok (.goto (-22), 3) := by decide +kernel
theorem dX2_init_53 : decode cX2_init 53 = .ok (.return_, 1) := by decide +kernel
theorem dX2_after_0 : decode cX2_after 0 = .ok (.lload_n 1, 1) := by decide +kernel
theorem dX2_after_1 : decode cX2_after 1 = .ok (.aload_n 0, 1) := by decide +kernel
theorem dX2_after_2 : decode cX2_after 2 = .ok (.getfield 21, 3) := by decide +kernel
theorem dX2_after_5 : decode cX2_after 5 = .ok (.invokestatic 26, 3) := by decide +kernel
theorem dX2_after_8 : decode cX2_after 8 = .ok (.iload_n 3, 1) := by decide +kernel
theorem dX2_after_9 : decode cX2_after 9 = .ok (.istore 5, 2) := by decide +kernel
theorem dX2_after_11 : decode cX2_after 11 = .ok (.iload 5, 2) := by decide +kernel
theorem dX2_after_13 : decode cX2_after 13 = .ok (.iload 4, 2) := by decide +kernel
theorem dX2_after_15 : decode cX2_after 15 = .ok (.if_icmp .ge 80, 3) := by decide +kernel
theorem dX2_after_18 : decode cX2_after 18 = .ok (.aload_n 0, 1) := by decide +kernel
theorem dX2_after_19 : decode cX2_after 19 = .ok (.getfield 11, 3) := by decide +kernel
theorem dX2_after_22 : decode cX2_after 22 = .ok (.iload 5, 2) := by decide +kernel
theorem dX2_after_24 : decode cX2_after 24 = .ok (.aaload, 1) := by decide +kernel
theorem dX2_after_25 : decode cX2_after 25 = .ok (.astore 6, 2) := by decide +kernel
theorem dX2_after_27 : decode cX2_after 27 = .ok (.aload 6, 2) := by decide +kernel
theorem dX2_after_29 : decode cX2_after 29 = .ok (.aload_n 0, 1) := by decide +kernel
theorem dX2_after_30 : decode cX2_after 30 = .ok (.getfield 21, 3) := by decide +kernel
theorem dX2_after_33 : decode cX2_after 33 = .ok (.invokevirtual 30, 3) := by decide +kernel
theorem dX2_after_36 : decode cX2_after 36 = .ok (.ifCond .eq 53, 3) := by decide +kernel
theorem dX2_after_39 : decode cX2_after 39 = .ok (.aload 6, 2) := by decide +kernel
theorem dX2_after_41 : decode cX2_after 41 = .ok (.aload_n 0, 1) := by decide +kernel
theorem dX2_after_42 : decode cX2_after 42 = .ok (.getfield 21, 3) := by decide +kernel
theorem dX2_after_45 : decode cX2_after 45 = .ok (.invokevirtual 34, 3) := by decide +kernel
theorem dX2_after_48 : decode cX2_after 48 = .ok (.istore 7, 2) := by decide +kernel
theorem dX2_after_50 : decode cX2_after 50 = .ok (.aload_n 0, 1) := by decide +kernel
theorem dX2_after_51 : decode cX2_after 51 = .ok (.getfield 21, 3) := by decide +kernel
theorem dX2_after_54 : decode cX2_after 54 = .ok (.aload 6, 2) := by decide +kernel
theorem dX2_after_56 : decode cX2_after 56 = .ok (.getfield 38, 3) := by decide +kernel
theorem dX2_after_59 : decode cX2_after 59 = .ok (.bipush 7, 2) := by decide +kernel
theorem dX2_after_61 : decode cX2_after 61 = .ok (.iand, 1) := by decide +kernel
theorem dX2_after_62 : decode cX2_after 62 = .ok (.iload 7, 2) := by decide +kernel
theorem dX2_after_64 : decode cX2_after 64 = .ok (.invokestatic 41, 3) := by decide +kernel
theorem dX2_after_67 : decode cX2_after 67 = .ok (.ifCond .eq 8, 3) := by decide +kernel
theorem dX2_after_70 : decode cX2_after 70 = .ok (.iload 7, 2) := by decide +kernel
theorem dX2_after_72 : decode cX2_after 72 = .ok (.goto 16, 3) := by decide +kernel
theorem dX2_after_75 : decode cX2_after 75 = .ok (.aload_n 0, 1) := by decide +kernel
theorem dX2_after_76 : decode cX2_after 76 = .ok (.getfield 21, 3) := by decide +kernel
theorem dX2_after_79 : decode cX2_after 79 = .ok (.aload 6, 2) := by decide +kernel
theorem dX2_after_81 : decode cX2_after 81 = .ok (.getfield 38, 3) := by decide +kernel
theorem dX2_after_84 : decode cX2_after 84 = .ok (.bipush 7, 2) := by decide +kernel
theorem dX2_after_86 : decode cX2_after 86 = .ok (.iand, 1) := by decide +kernel
theorem dX2_after_87 : decode cX2_after 87 = .ok (.iaload, 1) := by decide +kernel
theorem dX2_after_88 : decode cX2_after 88 = .ok (.iastore, 1) := by decide +kernel
theorem dX2_after_89 : decode cX2_after 89 = .ok (.iinc 5 1, 3) := by decide +kernel
theorem dX2_after_92 : decode cX2_after 92 = .ok (.goto (-81), 3) := by decide +kernel
theorem dX2_after_95 : decode cX2_after 95 = .ok (.aload_n 0, 1) := by decide +kernel
theorem dX2_after_96 : decode cX2_after 96 = .ok (.getfield 21, 3) := by decide +kernel
theorem dX2_after_99 : decode cX2_after 99 = .ok (.invokestatic 45, 3) := by decide +kernel
theorem dX2_after_102 : decode cX2_after 102 = .ok (.lreturn, 1) := by decide +kernel
theorem dX2_healed_0 : decode cX2_healed 0 = .ok (.aload_n 0, 1) := by decide +kernel
theorem dX2_healed_1 : decode cX2_healed 1 = .ok (.lload_n 1, 1) := by decide +kernel
theorem dX2_healed_2 : decode cX2_healed 2 = .ok (.iconst 0, 1) := by decide +kernel
theorem dX2_healed_3 : decode cX2_healed 3 = .ok (.aload_n 0, 1) := by decide +kernel
theorem dX2_healed_4 : decode cX2_healed 4 = .ok (.getfield 17, 3) := by decide +kernel
theorem dX2_healed_7 : decode cX2_healed 7 = .ok (.invokevirtual 49, 3) := by decide +kernel
theorem dX2_healed_10 : decode cX2_healed 10 = .ok (.lreturn, 1) := by decide +kernel
theorem dX2_isSteady_0 : decode cX2_isSteady 0 = .ok (.lload_n 1, 1) := by decide +kernel
theorem dX2_isSteady_1 : decode cX2_isSteady 1 = .ok (.lstore 5, 2) := by decide +kernel
theorem dX2_isSteady_3 : decode cX2_isSteady 3 = .ok (.iconst 0, 1) := by decide +kernel
theorem dX2_isSteady_4 : decode cX2_isSteady 4 = .ok (.istore 7, 2) := by decide +kernel
theorem dX2_isSteady_6 : decode cX2_isSteady 6 = .ok (.iload 7, 2) := by decide +kernel
theorem dX2_isSteady_8 : decode cX2_isSteady 8 = .ok (.aload_n 0, 1) := by decide +kernel
theorem dX2_isSteady_9 : decode cX2_isSteady 9 = .ok (.getfield 17, 3) := by decide +kernel
theorem dX2_isSteady_12 : decode cX2_isSteady 12 = .ok (.if_icmp .ge 53, 3) := by decide +kernel
theorem dX2_isSteady_15 : decode cX2_isSteady 15 = .ok (.aload_n 0, 1) := by decide +kernel
theorem dX2_isSteady_16 : decode cX2_isSteady 16 = .ok (.lload 5, 2) := by decide +kernel
theorem dX2_isSteady_18 : decode cX2_isSteady 18 = .ok (.iload 7, 2) := by decide +kernel
theorem dX2_isSteady_20 : decode cX2_isSteady 20 = .ok (.iload 7, 2) := by decide +kernel
theorem dX2_isSteady_22 : decode cX2_isSteady 22 = .ok (.iconst 1, 1) := by decide +kernel
theorem dX2_isSteady_23 : decode cX2_isSteady 23 = .ok (.iadd, 1) := by decide +kernel
theorem dX2_isSteady_24 : decode cX2_isSteady 24 = .ok (.invokevirtual 49, 3) := by decide +kernel
theorem dX2_isSteady_27 : decode cX2_isSteady 27 = .ok (.lstore 8, 2) := by decide +kernel
theorem dX2_isSteady_29 : decode cX2_isSteady 29 = .ok (.lload 8, 2) := by decide +kernel
theorem dX2_isSteady_31 : decode cX2_isSteady 31 = .ok (.lload 5, 2) := by decide +kernel
theorem dX2_isSteady_33 : decode cX2_isSteady 33 = .ok (.lcmp, 1) := by decide +kernel
theorem dX2_isSteady_34 : decode cX2_isSteady 34 = .ok (.ifCond .eq 21, 3) := by decide +kernel
theorem dX2_isSteady_37 : decode cX2_isSteady 37 = .ok (.aload_n 0, 1) := by decide +kernel
theorem dX2_isSteady_38 : decode cX2_isSteady 38 = .ok (.lload 8, 2) := by decide +kernel
theorem dX2_isSteady_40 : decode cX2_isSteady 40 = .ok (.iconst 0, 1) := by decide +kernel
theorem dX2_isSteady_41 : decode cX2_isSteady 41 = .ok (.aload_n 0, 1) := by decide +kernel
theorem dX2_isSteady_42 : decode cX2_isSteady 42 = .ok (.getfield 17, 3) := by decide +kernel
theorem dX2_isSteady_45 : decode cX2_isSteady 45 = .ok (.invokevirtual 49, 3) := by decide +kernel
theorem dX2_isSteady_48 : decode cX2_isSteady 48 = .ok (.lload_n 3, 1) := by decide +kernel
theorem dX2_isSteady_49 : decode cX2_isSteady 49 = .ok (.lcmp, 1) := by decide +kernel
theorem dX2_isSteady_50 : decode cX2_isSteady 50 = .ok (.ifCond .eq 5, 3) := by decide +kernel
theorem dX2_isSteady_53 : decode cX2_isSteady 53 = .ok (.iconst 0, 1) := by decide +kernel
theorem dX2_isSteady_54 : decode cX2_isSteady 54 = .ok (.ireturn, 1) := by decide +kernel
theorem dX2_isSteady_55 : decode cX2_isSteady 55 = .ok (.lload 8, 2) := by decide +kernel
theorem dX2_isSteady_57 : decode cX2_isSteady 57 = .ok (.lstore 5, 2) := by decide +kernel
theorem dX2_isSteady_59 : decode cX2_isSteady 59 = .ok (.iinc 7 1, 3) := by decide +kernel
theorem dX2_isSteady_62 : decode cX2_isSteady 62 = .ok (.goto (-56), 3) := by decide +kernel
theorem dX2_isSteady_65 : decode cX2_isSteady 65 = .ok (.iconst 1, 1) := by decide +kernel
theorem dX2_isSteady_66 : decode cX2_isSteady 66 = .ok (.ireturn, 1) := by decide +kernel
theorem dX3_init_0 : decode cX3_init 0 = .ok (.aload_n 0, 1) := by decide +kernel
theorem dX3_init_1 : decode cX3_init 1 = .ok (.invokespecial 3, 3) := by decide +kernel
theorem dX3_init_4 : decode cX3_init 4 = .ok (.aload_n 0, 1) := by decide +kernel
theorem dX3_init_5 : decode cX3_init 5 = .ok (.bipush 60, 2) := by decide +kernel
theorem dX3_init_7 : decode cX3_init 7 = .ok (.newarray .char, 2) := by decide +kernel
theorem dX3_init_9 : decode cX3_init 9 = .ok (.putfield 9, 3) := by decide +kernel
theorem dX3_init_12 : decode cX3_init 12 = .ok (.aload_n 0, 1) := by decide +kernel
theorem dX3_init_13 : decode cX3_init 13 = .ok (.iconst 0, 1) := by decide +kernel
theorem dX3_init_14 : decode cX3_init 14 = .ok (.putfield 15, 3) := by decide +kernel
theorem dX3_init_17 : decode cX3_init 17 = .ok (.return_, 1) := by decide +kernel
theorem dX3_lettersIn_0 : decode cX3_lettersIn 0 = .ok (.iconst 0, 1) := by decide +kernel
theorem dX3_lettersIn_1 : decode cX3_lettersIn 1 = .ok (.istore_n 2, 1) := by decide +kernel
theorem dX3_lettersIn_2 : decode cX3_lettersIn 2 = .ok (.iconst 0, 1) := by decide +kernel
theorem dX3_lettersIn_3 : decode cX3_lettersIn 3 = .ok (.istore_n 3, 1) := by decide +kernel
theorem dX3_lettersIn_4 : decode cX3_lettersIn 4 = .ok (.iload_n 3, 1) := by decide +kernel
theorem dX3_lettersIn_5 : decode cX3_lettersIn 5 = .ok (.bipush 8, 2) := by decide +kernel
theorem dX3_lettersIn_7 : decode cX3_lettersIn 7 = .ok (.if_icmp .ge 48, 3) := by decide +kernel
theorem dX3_lettersIn_10 : decode cX3_lettersIn 10 = .ok (.lload_n 0, 1) := by decide +kernel
theorem dX3_lettersIn_11 : decode cX3_lettersIn 11 = .ok (.iload_n 3, 1) := by decide +kernel
theorem dX3_lettersIn_12 : decode cX3_lettersIn 12 = .ok (.invokestatic 19, 3) := by decide +kernel
theorem dX3_lettersIn_15 : decode cX3_lettersIn 15 = .ok (.istore 4, 2) := by decide +kernel
theorem dX3_lettersIn_17 : decode cX3_lettersIn 17 = .ok (.iload 4, 2) := by decide +kernel
theorem dX3_lettersIn_19 : decode cX3_lettersIn 19 = .ok (.bipush 126, 2) := by decide +kernel
theorem dX3_lettersIn_21 : decode cX3_lettersIn 21 = .ok (.if_icmp .gt 13, 3) := by decide +kernel
theorem dX3_lettersIn_24 : decode cX3_lettersIn 24 = .ok (.iload 4, 2) := by decide +kernel
theorem dX3_lettersIn_26 : decode cX3_lettersIn 26 = .ok (.ifCond .eq 10, 3) := by decide +kernel
theorem dX3_lettersIn_29 : decode cX3_lettersIn 29 = .ok (.iload_n 2, 1) := by decide +kernel
theorem dX3_lettersIn_30 : decode cX3_lettersIn 30 = .ok (.iload_n 3, 1) := by decide +kernel
theorem dX3_lettersIn_31 : decode cX3_lettersIn 31 = .ok (.if_icmp .ge 5, 3) := by decide +kernel
theorem dX3_lettersIn_34 : decode cX3_lettersIn 34 = .ok (.iconst (-1), 1) := by decide +kernel
theorem dX3_lettersIn_35 : decode cX3_lettersIn 35 = .ok (.ireturn, 1) := by decide +kernel
theorem dX3_lettersIn_36 : decode cX3_lettersIn 36 = .ok (.iload_n 2, 1) := by decide +kernel
theorem dX3_lettersIn_37 : decode cX3_lettersIn 37 = .ok (.iload 4, 2) := by decide +kernel
theorem dX3_lettersIn_39 : decode cX3_lettersIn 39 = .ok (.ifCond .eq 7, 3) := by decide +kernel
theorem dX3_lettersIn_42 : decode cX3_lettersIn 42 = .ok (.iconst 1, 1) := by decide +kernel
theorem dX3_lettersIn_43 : decode cX3_lettersIn 43 = .ok (.goto 4, 3) := by decide +kernel
theorem dX3_lettersIn_46 : decode cX3_lettersIn 46 = .ok (.iconst 0, 1) := by decide +kernel
theorem dX3_lettersIn_47 : decode cX3_lettersIn 47 = .ok (.iadd, 1) := by decide +kernel
theorem dX3_lettersIn_48 : decode cX3_lettersIn 48 = .ok (.istore_n 2, 1) := by decide +kernel
theorem dX3_lettersIn_49 : decode cX3_lettersIn 49 = .ok (.iinc 3 1, 3) := by decide +kernel
theorem dX3_lettersIn_52 : decode cX3_lettersIn 52 = .ok (.goto (-48), 3) := by decide +kernel
theorem dX3_lettersIn_55 : decode cX3_lettersIn 55 = .ok (.iload_n 2, 1) := by decide +kernel
theorem dX3_lettersIn_56 : decode cX3_lettersIn 56 = .ok (.ireturn, 1) := by decide +kernel
theorem dX3_append_0 : decode cX3_append 0 = .ok (.iconst 0, 1) := by decide +kernel
theorem dX3_append_1 : decode cX3_append 1 = .ok (.istore 4, 2) := by decide +kernel
theorem dX3_append_3 : decode cX3_append 3 = .ok (.iload 4, 2) := by decide +kernel
theorem dX3_append_5 : decode cX3_append 5 = .ok (.iload_n 3, 1) := by decide +kernel
theorem dX3_append_6 : decode cX3_append 6 = .ok (.if_icmp .ge 44, 3) := by decide +kernel
theorem dX3_append_9 : decode cX3_append 9 = .ok (.aload_n 0, 1) := by decide +kernel
theorem dX3_append_10 : decode cX3_append 10 = .ok (.getfield 15, 3) := by decide +kernel
theorem dX3_append_13 : decode cX3_append 13 = .ok (.bipush 60, 2) := by decide +kernel
theorem dX3_append_15 : decode cX3_append 15 = .ok (.if_icmp .ge 35, 3) := by decide +kernel
theorem dX3_append_18 : decode cX3_append 18 = .ok (.aload_n 0, 1) := by decide +kernel
theorem dX3_append_19 : decode cX3_append 19 = .ok (.getfield 9, 3) := by decide +kernel
theorem dX3_append_22 : decode cX3_append 22 = .ok (.aload_n 0, 1) := by decide +kernel
theorem dX3_append_23 : decode cX3_append 23 = .ok (.getfield 15, 3) := by decide +kernel
theorem dX3_append_26 : decode cX3_append 26 = .ok (.lload_n 1, 1) := by decide +kernel
theorem dX3_append_27 : decode cX3_append 27 = .ok (.iload 4, 2) := by decide +kernel
theorem dX3_append_29 : decode cX3_append 29 = .ok (.invokestatic 19, 3) := by decide +kernel
theorem dX3_append_32 : decode cX3_append 32 = .ok (.i2c, 1) := by decide +kernel
theorem dX3_append_33 : decode cX3_append 33 = .ok (.castore, 1) := by decide +kernel
theorem dX3_append_34 : decode cX3_append 34 = .ok (.aload_n 0, 1) := by decide +kernel
theorem dX3_append_35 : decode cX3_append 35 = .ok (.dup, 1) := by decide +kernel
theorem dX3_append_36 : decode cX3_append 36 = .ok (.getfield 15, 3) := by decide +kernel
theorem dX3_append_39 : decode cX3_append 39 = .ok (.iconst 1, 1) := by decide +kernel
theorem dX3_append_40 : decode cX3_append 40 = .ok (.iadd, 1) := by decide +kernel
theorem dX3_append_41 : decode cX3_append 41 = .ok (.putfield 15, 3) := by decide +kernel
theorem dX3_append_44 : decode cX3_append 44 = .ok (.iinc 4 1, 3) := by decide +kernel
theorem dX3_append_47 : decode cX3_append 47 = .ok (.goto (-44), 3) := by decide +kernel
theorem dX3_append_50 : decode cX3_append 50 = .ok (.return_, 1) := by decide +kernel
theorem dX3_codeIn_0 : decode cX3_codeIn 0 = .ok (.lload_n 0, 1) := by decide +kernel
theorem dX3_codeIn_1 : decode cX3_codeIn 1 = .ok (.bipush 8, 2) := by decide +kernel
theorem dX3_codeIn_3 : decode cX3_codeIn 3 = .ok (.iload_n 2, 1) := by decide +kernel
theorem dX3_codeIn_4 : decode cX3_codeIn 4 = .ok (.imul, 1) := by decide +kernel
theorem dX3_codeIn_5 : decode cX3_codeIn 5 = .ok (.lushr, 1) := by decide +kernel
theorem dX3_codeIn_6 : decode cX3_codeIn 6 = .ok (.ldc2_w 23, 3) := by decide +kernel
theorem dX3_codeIn_9 : decode cX3_codeIn 9 = .ok (.land, 1) := by decide +kernel
theorem dX3_codeIn_10 : decode cX3_codeIn 10 = .ok (.l2i, 1) := by decide +kernel
theorem dX3_codeIn_11 : decode cX3_codeIn 11 = .ok (.ireturn, 1) := by decide +kernel
theorem dX4_init_0 : decode cX4_init 0 = .ok (.aload_n 0, 1) := by decide +kernel
theorem dX4_init_1 : decode cX4_init 1 = .ok (.invokespecial 3, 3) := by decide +kernel
theorem dX4_init_4 : decode cX4_init 4 = .ok (.aload_n 0, 1) := by decide +kernel
theorem dX4_init_5 : decode cX4_init 5 = .ok (.bipush 81, 2) := by decide +kernel
theorem dX4_init_7 : decode cX4_init 7 = .ok (.newarray .int, 2) := by decide +kernel
theorem dX4_init_9 : decode cX4_init 9 = .ok (.putfield 11, 3) := by decide +kernel
theorem dX4_init_12 : decode cX4_init 12 = .ok (.aload_n 0, 1) := by decide +kernel
theorem dX4_init_13 : decode cX4_init 13 = .ok (.bipush 8, 2) := by decide +kernel
theorem dX4_init_15 : decode cX4_init 15 = .ok (.newarray .int, 2) := by decide +kernel
theorem dX4_init_17 : decode cX4_init 17 = .ok (.putfield 15, 3) := by decide +kernel
theorem dX4_init_20 : decode cX4_init 20 = .ok (.aload_n 0, 1) := by decide +kernel
theorem dX4_init_21 : decode cX4_init 21 = .ok (.bipush 8, 2) := by decide +kernel
theorem dX4_init_23 : decode cX4_init 23 = .ok (.newarray .int, 2) := by decide +kernel
theorem dX4_init_25 : decode cX4_init 25 = .ok (.putfield 18, 3) := by decide +kernel
theorem dX4_init_28 : decode cX4_init 28 = .ok (.aload_n 0, 1) := by decide +kernel
theorem dX4_init_29 : decode cX4_init 29 = .ok (.iconst 0, 1) := by decide +kernel
theorem dX4_init_30 : decode cX4_init 30 = .ok (.putfield 21, 3) := by decide +kernel
theorem dX4_init_33 : decode cX4_init 33 = .ok (.aload_n 0, 1) := by decide +kernel
theorem dX4_init_34 : decode cX4_init 34 = .ok (.iconst (-1), 1) := by decide +kernel
theorem dX4_init_35 : decode cX4_init 35 = .ok (.putfield 25, 3) := by decide +kernel
theorem dX4_init_38 : decode cX4_init 38 = .ok (.aload_n 0, 1) := by decide +kernel
theorem dX4_init_39 : decode cX4_init 39 = .ok (.iconst (-1), 1) := by decide +kernel
theorem dX4_init_40 : decode cX4_init 40 = .ok (.putfield 28, 3) := by decide +kernel
theorem dX4_init_43 : decode cX4_init 43 = .ok (.return_, 1) := by decide +kernel
theorem dX4_behind_0 : decode cX4_behind 0 = .ok (.aload_n 0, 1) := by decide +kernel
theorem dX4_behind_1 : decode cX4_behind 1 = .ok (.getfield 25, 3) := by decide +kernel
theorem dX4_behind_4 : decode cX4_behind 4 = .ok (.iconst (-1), 1) := by decide +kernel
theorem dX4_behind_5 : decode cX4_behind 5 = .ok (.if_icmp .eq 24, 3) := by decide +kernel
theorem dX4_behind_8 : decode cX4_behind 8 = .ok (.iload_n 1, 1) := by decide +kernel
theorem dX4_behind_9 : decode cX4_behind 9 = .ok (.ifCond .lt 20, 3) := by decide +kernel
theorem dX4_behind_12 : decode cX4_behind 12 = .ok (.iload_n 1, 1) := by decide +kernel
theorem dX4_behind_13 : decode cX4_behind 13 = .ok (.aload_n 0, 1) := by decide +kernel
theorem dX4_behind_14 : decode cX4_behind 14 = .ok (.getfield 21, 3) := by decide +kernel
theorem dX4_behind_17 : decode cX4_behind 17 = .ok (.if_icmp .ge 12, 3) := by decide +kernel
theorem dX4_behind_20 : decode cX4_behind 20 = .ok (.aload_n 0, 1) := by decide +kernel
theorem dX4_behind_21 : decode cX4_behind 21 = .ok (.getfield 18, 3) := by decide +kernel
theorem dX4_behind_24 : decode cX4_behind 24 = .ok (.iload_n 1, 1) := by decide +kernel
theorem dX4_behind_25 : decode cX4_behind 25 = .ok (.iaload, 1) := by decide +kernel
theorem dX4_behind_26 : decode cX4_behind 26 = .ok (.goto 4, 3) := by decide +kernel
theorem dX4_behind_29 : decode cX4_behind 29 = .ok (.iconst (-1), 1) := by decide +kernel
theorem dX4_behind_30 : decode cX4_behind 30 = .ok (.ireturn, 1) := by decide +kernel
theorem dX4_weigh_0 : decode cX4_weigh 0 = .ok (.aload_n 1, 1) := by decide +kernel
theorem dX4_weigh_1 : decode cX4_weigh 1 = .ok (.getfield 31, 3) := by decide +kernel
theorem dX4_weigh_4 : decode cX4_weigh 4 = .ok (.bipush 8, 2) := by decide +kernel
theorem dX4_weigh_6 : decode cX4_weigh 6 = .ok (.invokestatic 36, 3) := by decide +kernel
theorem dX4_weigh_9 : decode cX4_weigh 9 = .ok (.istore_n 3, 1) := by decide +kernel
theorem dX4_weigh_10 : decode cX4_weigh 10 = .ok (.iconst 0, 1) := by decide +kernel
theorem dX4_weigh_11 : decode cX4_weigh 11 = .ok (.istore 4, 2) := by decide +kernel
theorem dX4_weigh_13 : decode cX4_weigh 13 = .ok (.iload 4, 2) := by decide +kernel
theorem dX4_weigh_15 : decode cX4_weigh 15 = .ok (.iload_n 3, 1) := by decide +kernel
theorem dX4_weigh_16 : decode cX4_weigh 16 = .ok (.if_icmp .gt 111, 3) := by decide +kernel
theorem dX4_weigh_19 : decode cX4_weigh 19 = .ok (.aload_n 1, 1) := by decide +kernel
theorem dX4_weigh_20 : decode cX4_weigh 20 = .ok (.iconst 0, 1) := by decide +kernel
theorem dX4_weigh_21 : decode cX4_weigh 21 = .ok (.iload 4, 2) := by decide +kernel
theorem dX4_weigh_23 : decode cX4_weigh 23 = .ok (.invokevirtual 42, 3) := by decide +kernel
theorem dX4_weigh_26 : decode cX4_weigh 26 = .ok (.istore 5, 2) := by decide +kernel
theorem dX4_weigh_28 : decode cX4_weigh 28 = .ok (.aload_n 2, 1) := by decide +kernel
theorem dX4_weigh_29 : decode cX4_weigh 29 = .ok (.iload 5, 2) := by decide +kernel
theorem dX4_weigh_31 : decode cX4_weigh 31 = .ok (.invokevirtual 45, 3) := by decide +kernel
theorem dX4_weigh_34 : decode cX4_weigh 34 = .ok (.istore 6, 2) := by decide +kernel
theorem dX4_weigh_36 : decode cX4_weigh 36 = .ok (.aload_n 0, 1) := by decide +kernel
theorem dX4_weigh_37 : decode cX4_weigh 37 = .ok (.getfield 11, 3) := by decide +kernel
theorem dX4_weigh_40 : decode cX4_weigh 40 = .ok (.iload 4, 2) := by decide +kernel
theorem dX4_weigh_42 : decode cX4_weigh 42 = .ok (.bipush 9, 2) := by decide +kernel
theorem dX4_weigh_44 : decode cX4_weigh 44 = .ok (.imul, 1) := by decide +kernel
theorem dX4_weigh_45 : decode cX4_weigh 45 = .ok (.iload 4, 2) := by decide +kernel
theorem dX4_weigh_47 : decode cX4_weigh 47 = .ok (.iadd, 1) := by decide +kernel
theorem dX4_weigh_48 : decode cX4_weigh 48 = .ok (.iload 6, 2) := by decide +kernel
theorem dX4_weigh_50 : decode cX4_weigh 50 = .ok (.iastore, 1) := by decide +kernel
theorem dX4_weigh_51 : decode cX4_weigh 51 = .ok (.iload 4, 2) := by decide +kernel
theorem dX4_weigh_53 : decode cX4_weigh 53 = .ok (.istore 7, 2) := by decide +kernel
theorem dX4_weigh_55 : decode cX4_weigh 55 = .ok (.iload 7, 2) := by decide +kernel
theorem dX4_weigh_57 : decode cX4_weigh 57 = .ok (.iload_n 3, 1) := by decide +kernel
theorem dX4_weigh_58 : decode cX4_weigh 58 = .ok (.if_icmp .ge 63, 3) := by decide +kernel
theorem dX4_weigh_61 : decode cX4_weigh 61 = .ok (.aload_n 1, 1) := by decide +kernel
theorem dX4_weigh_62 : decode cX4_weigh 62 = .ok (.getfield 51, 3) := by decide +kernel
theorem dX4_weigh_65 : decode cX4_weigh 65 = .ok (.iload 7, 2) := by decide +kernel
theorem dX4_weigh_67 : decode cX4_weigh 67 = .ok (.aaload, 1) := by decide +kernel
theorem dX4_weigh_68 : decode cX4_weigh 68 = .ok (.invokevirtual 55, 3) := by decide +kernel
theorem dX4_weigh_71 : decode cX4_weigh 71 = .ok (.ifCond .eq 27, 3) := by decide +kernel
theorem dX4_weigh_74 : decode cX4_weigh 74 = .ok (.iload 6, 2) := by decide +kernel
theorem dX4_weigh_76 : decode cX4_weigh 76 = .ok (.aload_n 2, 1) := by decide +kernel
theorem dX4_weigh_77 : decode cX4_weigh 77 = .ok (.iload 5, 2) := by decide +kernel
theorem dX4_weigh_79 : decode cX4_weigh 79 = .ok (.iconst 1, 1) := by decide +kernel
theorem dX4_weigh_80 : decode cX4_weigh 80 = .ok (.iload 7, 2) := by decide +kernel
theorem dX4_weigh_82 : decode cX4_weigh 82 = .ok (.ishl, 1) := by decide +kernel
theorem dX4_weigh_83 : decode cX4_weigh 83 = .ok (.ior, 1) := by decide +kernel
theorem dX4_weigh_84 : decode cX4_weigh 84 = .ok (.aload_n 1, 1) := by decide +kernel
theorem dX4_weigh_85 : decode cX4_weigh 85 = .ok (.iload 4, 2) := by decide +kernel
theorem dX4_weigh_87 : decode cX4_weigh 87 = .ok (.iload 7, 2) := by decide +kernel
theorem dX4_weigh_89 : decode cX4_weigh 89 = .ok (.invokevirtual 42, 3) := by decide +kernel
theorem dX4_weigh_92 : decode cX4_weigh 92 = .ok (.invokevirtual 61, 3) := by decide +kernel
theorem dX4_weigh_95 : decode cX4_weigh 95 = .ok (.ior, 1) := by decide +kernel
theorem dX4_weigh_96 : decode cX4_weigh 96 = .ok (.istore 6, 2) := by decide +kernel
theorem dX4_weigh_98 : decode cX4_weigh 98 = .ok (.aload_n 0, 1) := by decide +kernel
theorem dX4_weigh_99 : decode cX4_weigh 99 = .ok (.getfield 11, 3) := by decide +kernel
theorem dX4_weigh_102 : decode cX4_weigh 102 = .ok (.iload 4, 2) := by decide +kernel
theorem dX4_weigh_104 : decode cX4_weigh 104 = .ok (.bipush 9, 2) := by decide +kernel
theorem dX4_weigh_106 : decode cX4_weigh 106 = .ok (.imul, 1) := by decide +kernel
theorem dX4_weigh_107 : decode cX4_weigh 107 = .ok (.iload 7, 2) := by decide +kernel
theorem dX4_weigh_109 : decode cX4_weigh 109 = .ok (.iadd, 1) := by decide +kernel
theorem dX4_weigh_110 : decode cX4_weigh 110 = .ok (.iconst 1, 1) := by decide +kernel
theorem dX4_weigh_111 : decode cX4_weigh 111 = .ok (.iadd, 1) := by decide +kernel
theorem dX4_weigh_112 : decode cX4_weigh 112 = .ok (.iload 6, 2) := by decide +kernel
theorem dX4_weigh_114 : decode cX4_weigh 114 = .ok (.iastore, 1) := by decide +kernel
theorem dX4_weigh_115 : decode cX4_weigh 115 = .ok (.iinc 7 1, 3) := by decide +kernel
theorem dX4_weigh_118 : decode cX4_weigh 118 = .ok (.goto (-63), 3) := by decide +kernel
theorem dX4_weigh_121 : decode cX4_weigh 121 = .ok (.iinc 4 1, 3) := by decide +kernel
theorem dX4_weigh_124 : decode cX4_weigh 124 = .ok (.goto (-111), 3) := by decide +kernel
theorem dX4_weigh_127 : decode cX4_weigh 127 = .ok (.return_, 1) := by decide +kernel
theorem dX4_search_0 : decode cX4_search 0 = .ok (.aload_n 0, 1) := by decide +kernel
theorem dX4_search_1 : decode cX4_search 1 = .ok (.iconst 0, 1) := by decide +kernel
theorem dX4_search_2 : decode cX4_search 2 = .ok (.aload_n 1, 1) := by decide +kernel
theorem dX4_search_3 : decode cX4_search 3 = .ok (.getfield 31, 3) := by decide +kernel
theorem dX4_search_6 : decode cX4_search 6 = .ok (.bipush 8, 2) := by decide +kernel
theorem dX4_search_8 : decode cX4_search 8 = .ok (.invokestatic 36, 3) := by decide +kernel
theorem dX4_search_11 : decode cX4_search 11 = .ok (.iconst 1, 1) := by decide +kernel
theorem dX4_search_12 : decode cX4_search 12 = .ok (.isub, 1) := by decide +kernel
theorem dX4_search_13 : decode cX4_search 13 = .ok (.invokestatic 64, 3) := by decide +kernel
theorem dX4_search_16 : decode cX4_search 16 = .ok (.putfield 21, 3) := by decide +kernel
theorem dX4_search_19 : decode cX4_search 19 = .ok (.aload_n 0, 1) := by decide +kernel
theorem dX4_search_20 : decode cX4_search 20 = .ok (.getfield 15, 3) := by decide +kernel
theorem dX4_search_23 : decode cX4_search 23 = .ok (.iconst 0, 1) := by decide +kernel
theorem dX4_search_24 : decode cX4_search 24 = .ok (.invokestatic 67, 3) := by decide +kernel
theorem dX4_search_27 : decode cX4_search 27 = .ok (.aload_n 0, 1) := by decide +kernel
theorem dX4_search_28 : decode cX4_search 28 = .ok (.iconst (-1), 1) := by decide +kernel
theorem dX4_search_29 : decode cX4_search 29 = .ok (.putfield 25, 3) := by decide +kernel
theorem dX4_search_32 : decode cX4_search 32 = .ok (.aload_n 0, 1) := by decide +kernel
theorem dX4_search_33 : decode cX4_search 33 = .ok (.iconst (-1), 1) := by decide +kernel
theorem dX4_search_34 : decode cX4_search 34 = .ok (.putfield 28, 3) := by decide +kernel
theorem dX4_search_37 : decode cX4_search 37 = .ok (.iconst 1, 1) := by decide +kernel
theorem dX4_search_38 : decode cX4_search 38 = .ok (.istore 5, 2) := by decide +kernel
theorem dX4_search_40 : decode cX4_search 40 = .ok (.iconst 0, 1) := by decide +kernel
theorem dX4_search_41 : decode cX4_search 41 = .ok (.istore 6, 2) := by decide +kernel
theorem dX4_search_43 : decode cX4_search 43 = .ok (.iload 6, 2) := by decide +kernel
theorem dX4_search_45 : decode cX4_search 45 = .ok (.aload_n 0, 1) := by decide +kernel
theorem dX4_search_46 : decode cX4_search 46 = .ok (.getfield 21, 3) := by decide +kernel
theorem dX4_search_49 : decode cX4_search 49 = .ok (.if_icmp .ge 15, 3) := by decide +kernel
theorem dX4_search_52 : decode cX4_search 52 = .ok (.iload 5, 2) := by decide +kernel
theorem dX4_search_54 : decode cX4_search 54 = .ok (.iconst 3, 1) := by decide +kernel
theorem dX4_search_55 : decode cX4_search 55 = .ok (.imul, 1) := by decide +kernel
theorem dX4_search_56 : decode cX4_search 56 = .ok (.istore 5, 2) := by decide +kernel
theorem dX4_search_58 : decode cX4_search 58 = .ok (.iinc 6 1, 3) := by decide +kernel
theorem dX4_search_61 : decode cX4_search 61 = .ok (.goto (-18), 3) := by decide +kernel
theorem dX4_search_64 : decode cX4_search 64 = .ok (.iconst 0, 1) := by decide +kernel
theorem dX4_search_65 : decode cX4_search 65 = .ok (.istore 6, 2) := by decide +kernel
theorem dX4_search_67 : decode cX4_search 67 = .ok (.iload 6, 2) := by decide +kernel
theorem dX4_search_69 : decode cX4_search 69 = .ok (.iload 5, 2) := by decide +kernel
theorem dX4_search_71 : decode cX4_search 71 = .ok (.if_icmp .ge 92, 3) := by decide +kernel
theorem dX4_search_74 : decode cX4_search 74 = .ok (.aload_n 0, 1) := by decide +kernel
theorem dX4_search_75 : decode cX4_search 75 = .ok (.iconst 1, 1) := by decide +kernel
theorem dX4_search_76 : decode cX4_search 76 = .ok (.invokevirtual 73, 3) := by decide +kernel
theorem dX4_search_79 : decode cX4_search 79 = .ok (.istore 7, 2) := by decide +kernel
theorem dX4_search_81 : decode cX4_search 81 = .ok (.aload_n 0, 1) := by decide +kernel
theorem dX4_search_82 : decode cX4_search 82 = .ok (.iconst 2, 1) := by decide +kernel
theorem dX4_search_83 : decode cX4_search 83 = .ok (.invokevirtual 73, 3) := by decide +kernel
theorem dX4_search_86 : decode cX4_search 86 = .ok (.istore 8, 2) := by decide +kernel
theorem dX4_search_88 : decode cX4_search 88 = .ok (.iload 7, 2) := by decide +kernel
theorem dX4_search_90 : decode cX4_search 90 = .ok (.iload_n 3, 1) := by decide +kernel
theorem dX4_search_91 : decode cX4_search 91 = .ok (.imul, 1) := by decide +kernel
theorem dX4_search_92 : decode cX4_search 92 = .ok (.iload 8, 2) := by decide +kernel
theorem dX4_search_94 : decode cX4_search 94 = .ok (.iload 4, 2) := by decide +kernel
theorem dX4_search_96 : decode cX4_search 96 = .ok (.imul, 1) := by decide +kernel
theorem dX4_search_97 : decode cX4_search 97 = .ok (.iadd, 1) := by decide +kernel
theorem dX4_search_98 : decode cX4_search 98 = .ok (.istore 9, 2) := by decide +kernel
theorem dX4_search_100 : decode cX4_search 100 = .ok (.aload_n 0, 1) := by decide +kernel
theorem dX4_search_101 : decode cX4_search 101 = .ok (.iload 9, 2) := by decide +kernel
theorem dX4_search_103 : decode cX4_search 103 = .ok (.iload 7, 2) := by decide +kernel
theorem dX4_search_105 : decode cX4_search 105 = .ok (.iload 8, 2) := by decide +kernel
theorem dX4_search_107 : decode cX4_search 107 = .ok (.iadd, 1) := by decide +kernel
theorem dX4_search_108 : decode cX4_search 108 = .ok (.invokevirtual 76, 3) := by decide +kernel
theorem dX4_search_111 : decode cX4_search 111 = .ok (.ifCond .eq 42, 3) := by decide +kernel
theorem dX4_search_114 : decode cX4_search 114 = .ok (.aload_n 0, 1) := by decide +kernel
theorem dX4_search_115 : decode cX4_search 115 = .ok (.aload_n 1, 1) := by decide +kernel
theorem dX4_search_116 : decode cX4_search 116 = .ok (.iload_n 2, 1) := by decide +kernel
theorem dX4_search_117 : decode cX4_search 117 = .ok (.invokevirtual 80, 3) := by decide +kernel
theorem dX4_search_120 : decode cX4_search 120 = .ok (.ifCond .eq 33, 3) := by decide +kernel
theorem dX4_search_123 : decode cX4_search 123 = .ok (.aload_n 0, 1) := by decide +kernel
theorem dX4_search_124 : decode cX4_search 124 = .ok (.iload 9, 2) := by decide +kernel
theorem dX4_search_126 : decode cX4_search 126 = .ok (.putfield 25, 3) := by decide +kernel
theorem dX4_search_129 : decode cX4_search 129 = .ok (.aload_n 0, 1) := by decide +kernel
theorem dX4_search_130 : decode cX4_search 130 = .ok (.iload 7, 2) := by decide +kernel
theorem dX4_search_132 : decode cX4_search 132 = .ok (.iload 8, 2) := by decide +kernel
theorem dX4_search_134 : decode cX4_search 134 = .ok (.iadd, 1) := by decide +kernel
theorem dX4_search_135 : decode cX4_search 135 = .ok (.putfield 28, 3) := by decide +kernel
theorem dX4_search_138 : decode cX4_search 138 = .ok (.aload_n 0, 1) := by decide +kernel
theorem dX4_search_139 : decode cX4_search 139 = .ok (.getfield 15, 3) := by decide +kernel
theorem dX4_search_142 : decode cX4_search 142 = .ok (.iconst 0, 1) := by decide +kernel
theorem dX4_search_143 : decode cX4_search 143 = .ok (.aload_n 0, 1) := by decide +kernel
theorem dX4_search_144 : decode cX4_search 144 = .ok (.getfield 18, 3) := by decide +kernel
theorem dX4_search_147 : decode cX4_search 147 = .ok (.iconst 0, 1) := by decide +kernel
theorem dX4_search_148 : decode cX4_search 148 = .ok (.bipush 8, 2) := by decide +kernel
theorem dX4_search_150 : decode cX4_search 150 = .ok (.invokestatic 84, 3) := by decide +kernel
theorem dX4_search_153 : decode cX4_search 153 = .ok (.aload_n 0, 1) := by decide +kernel
theorem dX4_search_154 : decode cX4_search 154 = .ok (.invokevirtual 90, 3) := by decide +kernel
theorem dX4_search_157 : decode cX4_search 157 = .ok (.iinc 6 1, 3) := by decide +kernel
theorem dX4_search_160 : decode cX4_search 160 = .ok (.goto (-93), 3) := by decide +kernel
theorem dX4_search_163 : decode cX4_search 163 = .ok (.return_, 1) := by decide +kernel
theorem dX4_putOf_0 : decode cX4_putOf 0 = .ok (.iconst 0, 1) := by decide +kernel
theorem dX4_putOf_1 : decode cX4_putOf 1 = .ok (.istore_n 2, 1) := by decide +kernel
theorem dX4_putOf_2 : decode cX4_putOf 2 = .ok (.iconst 0, 1) := by decide +kernel
theorem dX4_putOf_3 : decode cX4_putOf 3 = .ok (.istore_n 3, 1) := by decide +kernel
theorem dX4_putOf_4 : decode cX4_putOf 4 = .ok (.iload_n 3, 1) := by decide +kernel
theorem dX4_putOf_5 : decode cX4_putOf 5 = .ok (.aload_n 0, 1) := by decide +kernel
theorem dX4_putOf_6 : decode cX4_putOf 6 = .ok (.getfield 21, 3) := by decide +kernel
theorem dX4_putOf_9 : decode cX4_putOf 9 = .ok (.if_icmp .ge 27, 3) := by decide +kernel
theorem dX4_putOf_12 : decode cX4_putOf 12 = .ok (.iload_n 2, 1) := by decide +kernel
theorem dX4_putOf_13 : decode cX4_putOf 13 = .ok (.aload_n 0, 1) := by decide +kernel
theorem dX4_putOf_14 : decode cX4_putOf 14 = .ok (.getfield 15, 3) := by decide +kernel
theorem dX4_putOf_17 : decode cX4_putOf 17 = .ok (.iload_n 3, 1) := by decide +kernel
theorem dX4_putOf_18 : decode cX4_putOf 18 = .ok (.iaload, 1) := by decide +kernel
theorem dX4_putOf_19 : decode cX4_putOf 19 = .ok (.iload_n 1, 1) := by decide +kernel
theorem dX4_putOf_20 : decode cX4_putOf 20 = .ok (.if_icmp .ne 7, 3) := by decide +kernel
theorem dX4_putOf_23 : decode cX4_putOf 23 = .ok (.iconst 1, 1) := by decide +kernel
theorem dX4_putOf_24 : decode cX4_putOf 24 = .ok (.goto 4, 3) := by decide +kernel
theorem dX4_putOf_27 : decode cX4_putOf 27 = .ok (.iconst 0, 1) := by decide +kernel
theorem dX4_putOf_28 : decode cX4_putOf 28 = .ok (.iadd, 1) := by decide +kernel
theorem dX4_putOf_29 : decode cX4_putOf 29 = .ok (.istore_n 2, 1) := by decide +kernel
theorem dX4_putOf_30 : decode cX4_putOf 30 = .ok (.iinc 3 1, 3) := by decide +kernel
theorem dX4_putOf_33 : decode cX4_putOf 33 = .ok (.goto (-29), 3) := by decide +kernel
theorem dX4_putOf_36 : decode cX4_putOf 36 = .ok (.iload_n 2, 1) := by decide +kernel
theorem dX4_putOf_37 : decode cX4_putOf 37 = .ok (.ireturn, 1) := by decide +kernel
theorem dX4_isBetter_0 : decode cX4_isBetter 0 = .ok (.aload_n 0, 1) := by decide +kernel
theorem dX4_isBetter_1 : decode cX4_isBetter 1 = .ok (.getfield 25, 3) := by decide +kernel
theorem dX4_isBetter_4 : decode cX4_isBetter 4 = .ok (.iconst (-1), 1) := by decide +kernel
theorem dX4_isBetter_5 : decode cX4_isBetter 5 = .ok (.if_icmp .eq 27, 3) := by decide +kernel
theorem dX4_isBetter_8 : decode cX4_isBetter 8 = .ok (.iload_n 1, 1) := by decide +kernel
theorem dX4_isBetter_9 : decode cX4_isBetter 9 = .ok (.aload_n 0, 1) := by decide +kernel
theorem dX4_isBetter_10 : decode cX4_isBetter 10 = .ok (.getfield 25, 3) := by decide +kernel
theorem dX4_isBetter_13 : decode cX4_isBetter 13 = .ok (.if_icmp .lt 19, 3) := by decide +kernel
theorem dX4_isBetter_16 : decode cX4_isBetter 16 = .ok (.iload_n 1, 1) := by decide +kernel
theorem dX4_isBetter_17 : decode cX4_isBetter 17 = .ok (.aload_n 0, 1) := by decide +kernel
theorem dX4_isBetter_18 : decode cX4_isBetter 18 = .ok (.getfield 25, 3) := by decide +kernel
theorem dX4_isBetter_21 : decode cX4_isBetter 21 = .ok (.if_icmp .ne 15, 3) := by decide +kernel
theorem dX4_isBetter_24 : decode cX4_isBetter 24 = .ok (.iload_n 2, 1) := by decide +kernel
theorem dX4_isBetter_25 : decode cX4_isBetter 25 = .ok (.aload_n 0, 1) := by decide +kernel
theorem dX4_isBetter_26 : decode cX4_isBetter 26 = .ok (.getfield 28, 3) := by decide +kernel
theorem dX4_isBetter_29 : decode cX4_isBetter 29 = .ok (.if_icmp .ge 7, 3) := by decide +kernel
theorem dX4_isBetter_32 : decode cX4_isBetter 32 = .ok (.iconst 1, 1) := by decide +kernel
theorem dX4_isBetter_33 : decode cX4_isBetter 33 = .ok (.goto 4, 3) := by decide +kernel
theorem dX4_isBetter_36 : decode cX4_isBetter 36 = .ok (.iconst 0, 1) := by decide +kernel
theorem dX4_isBetter_37 : decode cX4_isBetter 37 = .ok (.ireturn, 1) := by decide +kernel
theorem dX4_goOn_0 : decode cX4_goOn 0 = .ok (.aload_n 0, 1) := by decide +kernel
theorem dX4_goOn_1 : decode cX4_goOn 1 = .ok (.getfield 21, 3) := by decide +kernel
theorem dX4_goOn_4 : decode cX4_goOn 4 = .ok (.iconst 1, 1) := by decide +kernel
theorem dX4_goOn_5 : decode cX4_goOn 5 = .ok (.isub, 1) := by decide +kernel
theorem dX4_goOn_6 : decode cX4_goOn 6 = .ok (.istore_n 1, 1) := by decide +kernel
theorem dX4_goOn_7 : decode cX4_goOn 7 = .ok (.iload_n 1, 1) := by decide +kernel
theorem dX4_goOn_8 : decode cX4_goOn 8 = .ok (.ifCond .lt 26, 3) := by decide +kernel
theorem dX4_goOn_11 : decode cX4_goOn 11 = .ok (.aload_n 0, 1) := by decide +kernel
theorem dX4_goOn_12 : decode cX4_goOn 12 = .ok (.getfield 15, 3) := by decide +kernel
theorem dX4_goOn_15 : decode cX4_goOn 15 = .ok (.iload_n 1, 1) := by decide +kernel
theorem dX4_goOn_16 : decode cX4_goOn 16 = .ok (.iaload, 1) := by decide +kernel
theorem dX4_goOn_17 : decode cX4_goOn 17 = .ok (.iconst 2, 1) := by decide +kernel
theorem dX4_goOn_18 : decode cX4_goOn 18 = .ok (.if_icmp .ne 16, 3) := by decide +kernel
theorem dX4_goOn_21 : decode cX4_goOn 21 = .ok (.aload_n 0, 1) := by decide +kernel
theorem dX4_goOn_22 : decode cX4_goOn 22 = .ok (.getfield 15, 3) := by decide +kernel
theorem dX4_goOn_25 : decode cX4_goOn 25 = .ok (.iload_n 1, 1) := by decide +kernel
theorem dX4_goOn_26 : decode cX4_goOn 26 = .ok (.iconst 0, 1) := by decide +kernel
theorem dX4_goOn_27 : decode cX4_goOn 27 = .ok (.iastore, 1) := by decide +kernel
theorem dX4_goOn_28 : decode cX4_goOn 28 = .ok (.iinc 1 (-1), 3) := by decide +kernel
theorem dX4_goOn_31 : decode cX4_goOn 31 = .ok (.goto (-24), 3) := by decide +kernel
theorem dX4_goOn_34 : decode cX4_goOn 34 = .ok (.iload_n 1, 1) := by decide +kernel
theorem dX4_goOn_35 : decode cX4_goOn 35 = .ok (.ifCond .lt 13, 3) := by decide +kernel
theorem dX4_goOn_38 : decode cX4_goOn 38 = .ok (.aload_n 0, 1) := by decide +kernel
theorem dX4_goOn_39 : decode cX4_goOn 39 = .ok (.getfield 15, 3) := by decide +kernel
theorem dX4_goOn_42 : decode cX4_goOn 42 = .ok (.iload_n 1, 1) := by decide +kernel
theorem dX4_goOn_43 : decode cX4_goOn 43 = .ok (.dup2, 1) := by decide +kernel
theorem dX4_goOn_44 : decode cX4_goOn 44 = .ok (.iaload, 1) := by decide +kernel
theorem dX4_goOn_45 : decode cX4_goOn 45 = .ok (.iconst 1, 1) := by decide +kernel
theorem dX4_goOn_46 : decode cX4_goOn 46 = .ok (.iadd, 1) := by decide +kernel
theorem dX4_goOn_47 : decode cX4_goOn 47 = .ok (.iastore, 1) := by decide +kernel
theorem dX4_goOn_48 : decode cX4_goOn 48 = .ok (.return_, 1) := by decide +kernel
theorem dX4_isSafe_0 : decode cX4_isSafe 0 = .ok (.iload_n 2, 1) := by decide +kernel
theorem dX4_isSafe_1 : decode cX4_isSafe 1 = .ok (.bipush 64, 2) := by decide +kernel
theorem dX4_isSafe_3 : decode cX4_isSafe 3 = .ok (.ior, 1) := by decide +kernel
theorem dX4_isSafe_4 : decode cX4_isSafe 4 = .ok (.istore_n 3, 1) := by decide +kernel
theorem dX4_isSafe_5 : decode cX4_isSafe 5 = .ok (.iconst 0, 1) := by decide +kernel
theorem dX4_isSafe_6 : decode cX4_isSafe 6 = .ok (.istore 4, 2) := by decide +kernel
theorem dX4_isSafe_8 : decode cX4_isSafe 8 = .ok (.iconst 0, 1) := by decide +kernel
theorem dX4_isSafe_9 : decode cX4_isSafe 9 = .ok (.istore 5, 2) := by decide +kernel
theorem dX4_isSafe_11 : decode cX4_isSafe 11 = .ok (.aload_n 0, 1) := by decide +kernel
theorem dX4_isSafe_12 : decode cX4_isSafe 12 = .ok (.getfield 11, 3) := by decide +kernel
theorem dX4_isSafe_15 : decode cX4_isSafe 15 = .ok (.iconst 0, 1) := by decide +kernel
theorem dX4_isSafe_16 : decode cX4_isSafe 16 = .ok (.iaload, 1) := by decide +kernel
theorem dX4_isSafe_17 : decode cX4_isSafe 17 = .ok (.iload_n 3, 1) := by decide +kernel
theorem dX4_isSafe_18 : decode cX4_isSafe 18 = .ok (.iand, 1) := by decide +kernel
theorem dX4_isSafe_19 : decode cX4_isSafe 19 = .ok (.ifCond .ne 7, 3) := by decide +kernel
theorem dX4_isSafe_22 : decode cX4_isSafe 22 = .ok (.iconst 1, 1) := by decide +kernel
theorem dX4_isSafe_23 : decode cX4_isSafe 23 = .ok (.goto 4, 3) := by decide +kernel
theorem dX4_isSafe_26 : decode cX4_isSafe 26 = .ok (.iconst 0, 1) := by decide +kernel
theorem dX4_isSafe_27 : decode cX4_isSafe 27 = .ok (.istore 6, 2) := by decide +kernel
theorem dX4_isSafe_29 : decode cX4_isSafe 29 = .ok (.iconst 0, 1) := by decide +kernel
theorem dX4_isSafe_30 : decode cX4_isSafe 30 = .ok (.istore 7, 2) := by decide +kernel
theorem dX4_isSafe_32 : decode cX4_isSafe 32 = .ok (.iload 7, 2) := by decide +kernel
theorem dX4_isSafe_34 : decode cX4_isSafe 34 = .ok (.aload_n 0, 1) := by decide +kernel
theorem dX4_isSafe_35 : decode cX4_isSafe 35 = .ok (.getfield 21, 3) := by decide +kernel
theorem dX4_isSafe_38 : decode cX4_isSafe 38 = .ok (.if_icmp .gt 181, 3) := by decide +kernel
theorem dX4_isSafe_41 : decode cX4_isSafe 41 = .ok (.iload 7, 2) := by decide +kernel
theorem dX4_isSafe_43 : decode cX4_isSafe 43 = .ok (.aload_n 1, 1) := by decide +kernel
theorem dX4_isSafe_44 : decode cX4_isSafe 44 = .ok (.getfield 31, 3) := by decide +kernel
theorem dX4_isSafe_47 : decode cX4_isSafe 47 = .ok (.if_icmp .ge 172, 3) := by decide +kernel
theorem dX4_isSafe_50 : decode cX4_isSafe 50 = .ok (.iload 6, 2) := by decide +kernel
theorem dX4_isSafe_52 : decode cX4_isSafe 52 = .ok (.ifCond .eq 167, 3) := by decide +kernel
theorem dX4_isSafe_55 : decode cX4_isSafe 55 = .ok (.aload_n 1, 1) := by decide +kernel
theorem dX4_isSafe_56 : decode cX4_isSafe 56 = .ok (.getfield 51, 3) := by decide +kernel
theorem dX4_isSafe_59 : decode cX4_isSafe 59 = .ok (.iload 7, 2) := by decide +kernel
theorem dX4_isSafe_61 : decode cX4_isSafe 61 = .ok (.aaload, 1) := by decide +kernel
theorem dX4_isSafe_62 : decode cX4_isSafe 62 = .ok (.astore 8, 2) := by decide +kernel
theorem dX4_isSafe_64 : decode cX4_isSafe 64 = .ok (.aload 8, 2) := by decide +kernel
theorem dX4_isSafe_66 : decode cX4_isSafe 66 = .ok (.invokevirtual 93, 3) := by decide +kernel
theorem dX4_isSafe_69 : decode cX4_isSafe 69 = .ok (.ifCond .eq 40, 3) := by decide +kernel
theorem dX4_isSafe_72 : decode cX4_isSafe 72 = .ok (.aload 8, 2) := by decide +kernel
theorem dX4_isSafe_74 : decode cX4_isSafe 74 = .ok (.getfield 96, 3) := by decide +kernel
theorem dX4_isSafe_77 : decode cX4_isSafe 77 = .ok (.iconst 3, 1) := by decide +kernel
theorem dX4_isSafe_78 : decode cX4_isSafe 78 = .ok (.if_icmp .ne 7, 3) := by decide +kernel
theorem dX4_isSafe_81 : decode cX4_isSafe 81 = .ok (.iconst 0, 1) := by decide +kernel
theorem dX4_isSafe_82 : decode cX4_isSafe 82 = .ok (.goto 19, 3) := by decide +kernel
theorem dX4_isSafe_85 : decode cX4_isSafe 85 = .ok (.iload 4, 2) := by decide +kernel
theorem dX4_isSafe_87 : decode cX4_isSafe 87 = .ok (.aload_n 0, 1) := by decide +kernel
theorem dX4_isSafe_88 : decode cX4_isSafe 88 = .ok (.getfield 11, 3) := by decide +kernel
theorem dX4_isSafe_91 : decode cX4_isSafe 91 = .ok (.iload 5, 2) := by decide +kernel
theorem dX4_isSafe_93 : decode cX4_isSafe 93 = .ok (.bipush 9, 2) := by decide +kernel
theorem dX4_isSafe_95 : decode cX4_isSafe 95 = .ok (.imul, 1) := by decide +kernel
theorem dX4_isSafe_96 : decode cX4_isSafe 96 = .ok (.iload 7, 2) := by decide +kernel
theorem dX4_isSafe_98 : decode cX4_isSafe 98 = .ok (.iadd, 1) := by decide +kernel
theorem dX4_isSafe_99 : decode cX4_isSafe 99 = .ok (.iaload, 1) := by decide +kernel
theorem dX4_isSafe_100 : decode cX4_isSafe 100 = .ok (.ior, 1) := by decide +kernel
theorem dX4_isSafe_101 : decode cX4_isSafe 101 = .ok (.istore 4, 2) := by decide +kernel
theorem dX4_isSafe_103 : decode cX4_isSafe 103 = .ok (.iload 7, 2) := by decide +kernel
theorem dX4_isSafe_105 : decode cX4_isSafe 105 = .ok (.iconst 1, 1) := by decide +kernel
theorem dX4_isSafe_106 : decode cX4_isSafe 106 = .ok (.iadd, 1) := by decide +kernel
theorem dX4_isSafe_107 : decode cX4_isSafe 107 = .ok (.istore 5, 2) := by decide +kernel
theorem dX4_isSafe_109 : decode cX4_isSafe 109 = .ok (.iload_n 3, 1) := by decide +kernel
theorem dX4_isSafe_110 : decode cX4_isSafe 110 = .ok (.aload 8, 2) := by decide +kernel
theorem dX4_isSafe_112 : decode cX4_isSafe 112 = .ok (.getfield 96, 3) := by decide +kernel
theorem dX4_isSafe_115 : decode cX4_isSafe 115 = .ok (.iconst 4, 1) := by decide +kernel
theorem dX4_isSafe_116 : decode cX4_isSafe 116 = .ok (.if_icmp .ne 13, 3) := by decide +kernel
theorem dX4_isSafe_119 : decode cX4_isSafe 119 = .ok (.iconst 1, 1) := by decide +kernel
theorem dX4_isSafe_120 : decode cX4_isSafe 120 = .ok (.aload 8, 2) := by decide +kernel
theorem dX4_isSafe_122 : decode cX4_isSafe 122 = .ok (.getfield 99, 3) := by decide +kernel
theorem dX4_isSafe_125 : decode cX4_isSafe 125 = .ok (.ishl, 1) := by decide +kernel
theorem dX4_isSafe_126 : decode cX4_isSafe 126 = .ok (.goto 4, 3) := by decide +kernel
theorem dX4_isSafe_129 : decode cX4_isSafe 129 = .ok (.iconst 0, 1) := by decide +kernel
theorem dX4_isSafe_130 : decode cX4_isSafe 130 = .ok (.ior, 1) := by decide +kernel
theorem dX4_isSafe_131 : decode cX4_isSafe 131 = .ok (.istore_n 3, 1) := by decide +kernel
theorem dX4_isSafe_132 : decode cX4_isSafe 132 = .ok (.iload 4, 2) := by decide +kernel
theorem dX4_isSafe_134 : decode cX4_isSafe 134 = .ok (.aload_n 0, 1) := by decide +kernel
theorem dX4_isSafe_135 : decode cX4_isSafe 135 = .ok (.getfield 11, 3) := by decide +kernel
theorem dX4_isSafe_138 : decode cX4_isSafe 138 = .ok (.iload 5, 2) := by decide +kernel
theorem dX4_isSafe_140 : decode cX4_isSafe 140 = .ok (.bipush 9, 2) := by decide +kernel
theorem dX4_isSafe_142 : decode cX4_isSafe 142 = .ok (.imul, 1) := by decide +kernel
theorem dX4_isSafe_143 : decode cX4_isSafe 143 = .ok (.iload 7, 2) := by decide +kernel
theorem dX4_isSafe_145 : decode cX4_isSafe 145 = .ok (.iadd, 1) := by decide +kernel
theorem dX4_isSafe_146 : decode cX4_isSafe 146 = .ok (.iconst 1, 1) := by decide +kernel
theorem dX4_isSafe_147 : decode cX4_isSafe 147 = .ok (.iadd, 1) := by decide +kernel
theorem dX4_isSafe_148 : decode cX4_isSafe 148 = .ok (.iaload, 1) := by decide +kernel
theorem dX4_isSafe_149 : decode cX4_isSafe 149 = .ok (.ior, 1) := by decide +kernel
theorem dX4_isSafe_150 : decode cX4_isSafe 150 = .ok (.iload_n 3, 1) := by decide +kernel
theorem dX4_isSafe_151 : decode cX4_isSafe 151 = .ok (.iand, 1) := by decide +kernel
theorem dX4_isSafe_152 : decode cX4_isSafe 152 = .ok (.ifCond .ne 7, 3) := by decide +kernel
theorem dX4_isSafe_155 : decode cX4_isSafe 155 = .ok (.iconst 1, 1) := by decide +kernel
theorem dX4_isSafe_156 : decode cX4_isSafe 156 = .ok (.goto 4, 3) := by decide +kernel
theorem dX4_isSafe_159 : decode cX4_isSafe 159 = .ok (.iconst 0, 1) := by decide +kernel
theorem dX4_isSafe_160 : decode cX4_isSafe 160 = .ok (.istore 6, 2) := by decide +kernel
theorem dX4_isSafe_162 : decode cX4_isSafe 162 = .ok (.aload_n 0, 1) := by decide +kernel
theorem dX4_isSafe_163 : decode cX4_isSafe 163 = .ok (.getfield 15, 3) := by decide +kernel
theorem dX4_isSafe_166 : decode cX4_isSafe 166 = .ok (.iload 7, 2) := by decide +kernel
theorem dX4_isSafe_168 : decode cX4_isSafe 168 = .ok (.iaload, 1) := by decide +kernel
theorem dX4_isSafe_169 : decode cX4_isSafe 169 = .ok (.ifCond .eq 44, 3) := by decide +kernel
theorem dX4_isSafe_172 : decode cX4_isSafe 172 = .ok (.aload_n 0, 1) := by decide +kernel
theorem dX4_isSafe_173 : decode cX4_isSafe 173 = .ok (.getfield 15, 3) := by decide +kernel
theorem dX4_isSafe_176 : decode cX4_isSafe 176 = .ok (.iload 7, 2) := by decide +kernel
theorem dX4_isSafe_178 : decode cX4_isSafe 178 = .ok (.iaload, 1) := by decide +kernel
theorem dX4_isSafe_179 : decode cX4_isSafe 179 = .ok (.iconst 2, 1) := by decide +kernel
theorem dX4_isSafe_180 : decode cX4_isSafe 180 = .ok (.if_icmp .ne 7, 3) := by decide +kernel
theorem dX4_isSafe_183 : decode cX4_isSafe 183 = .ok (.iconst 0, 1) := by decide +kernel
theorem dX4_isSafe_184 : decode cX4_isSafe 184 = .ok (.goto 21, 3) := by decide +kernel
theorem dX4_isSafe_187 : decode cX4_isSafe 187 = .ok (.iload 4, 2) := by decide +kernel
theorem dX4_isSafe_189 : decode cX4_isSafe 189 = .ok (.aload_n 0, 1) := by decide +kernel
theorem dX4_isSafe_190 : decode cX4_isSafe 190 = .ok (.getfield 11, 3) := by decide +kernel
theorem dX4_isSafe_193 : decode cX4_isSafe 193 = .ok (.iload 5, 2) := by decide +kernel
theorem dX4_isSafe_195 : decode cX4_isSafe 195 = .ok (.bipush 9, 2) := by decide +kernel
theorem dX4_isSafe_197 : decode cX4_isSafe 197 = .ok (.imul, 1) := by decide +kernel
theorem dX4_isSafe_198 : decode cX4_isSafe 198 = .ok (.iload 7, 2) := by decide +kernel
theorem dX4_isSafe_200 : decode cX4_isSafe 200 = .ok (.iadd, 1) := by decide +kernel
theorem dX4_isSafe_201 : decode cX4_isSafe 201 = .ok (.iconst 1, 1) := by decide +kernel
theorem dX4_isSafe_202 : decode cX4_isSafe 202 = .ok (.iadd, 1) := by decide +kernel
theorem dX4_isSafe_203 : decode cX4_isSafe 203 = .ok (.iaload, 1) := by decide +kernel
theorem dX4_isSafe_204 : decode cX4_isSafe 204 = .ok (.ior, 1) := by decide +kernel
theorem dX4_isSafe_205 : decode cX4_isSafe 205 = .ok (.istore 4, 2) := by decide +kernel
theorem dX4_isSafe_207 : decode cX4_isSafe 207 = .ok (.iload 7, 2) := by decide +kernel
theorem dX4_isSafe_209 : decode cX4_isSafe 209 = .ok (.iconst 1, 1) := by decide +kernel
theorem dX4_isSafe_210 : decode cX4_isSafe 210 = .ok (.iadd, 1) := by decide +kernel
theorem dX4_isSafe_211 : decode cX4_isSafe 211 = .ok (.istore 5, 2) := by decide +kernel
theorem dX4_isSafe_213 : decode cX4_isSafe 213 = .ok (.iinc 7 1, 3) := by decide +kernel
theorem dX4_isSafe_216 : decode cX4_isSafe 216 = .ok (.goto (-184), 3) := by decide +kernel
theorem dX4_isSafe_219 : decode cX4_isSafe 219 = .ok (.iload 6, 2) := by decide +kernel
theorem dX4_isSafe_221 : decode cX4_isSafe 221 = .ok (.ireturn, 1) := by decide +kernel
theorem dX5_init_0 : decode cX5_init 0 = .ok (.aload_n 0, 1) := by decide +kernel
theorem dX5_init_1 : decode cX5_init 1 = .ok (.invokespecial 3, 3) := by decide +kernel
theorem dX5_init_4 : decode cX5_init 4 = .ok (.aload_n 0, 1) := by decide +kernel
theorem dX5_init_5 : decode cX5_init 5 = .ok (.bipush 12, 2) := by decide +kernel
theorem dX5_init_7 : decode cX5_init 7 = .ok (.anewarray 9, 3) := by decide +kernel
theorem dX5_init_10 : decode cX5_init 10 = .ok (.putfield 11, 3) := by decide +kernel
theorem dX5_init_13 : decode cX5_init 13 = .ok (.aload_n 0, 1) := by decide +kernel
theorem dX5_init_14 : decode cX5_init 14 = .ok (.iconst 0, 1) := by decide +kernel
theorem dX5_init_15 : decode cX5_init 15 = .ok (.putfield 17, 3) := by decide +kernel
theorem dX5_init_18 : decode cX5_init 18 = .ok (.aload_n 0, 1) := by decide +kernel
theorem dX5_init_19 : decode cX5_init 19 = .ok (.lconst 0, 1) := by decide +kernel
theorem dX5_init_20 : decode cX5_init 20 = .ok (.putfield 21, 3) := by decide +kernel
theorem dX5_init_23 : decode cX5_init 23 = .ok (.iconst 0, 1) := by decide +kernel
theorem dX5_init_24 : decode cX5_init 24 = .ok (.istore_n 1, 1) := by decide +kernel
theorem dX5_init_25 : decode cX5_init 25 = .ok (.iload_n 1, 1) := by decide +kernel
theorem dX5_init_26 : decode cX5_init 26 = .ok (.bipush 12, 2) := by decide +kernel
theorem dX5_init_28 : decode cX5_init 28 = .ok (.if_icmp .ge 22, 3) := by decide +kernel
theorem dX5_init_31 : decode cX5_init 31 = .ok (.aload_n 0, 1) := by decide +kernel
theorem dX5_init_32 : decode cX5_init 32 = .ok (.getfield 11, 3) := by decide +kernel
theorem dX5_init_35 : decode cX5_init 35 = .ok (.iload_n 1, 1) := by decide +kernel
theorem dX5_init_36 : decode cX5_init 36 = .ok (.new 9, 3) := by decide +kernel
theorem dX5_init_39 : decode cX5_init 39 = .ok (.dup, 1) := by decide +kernel
theorem dX5_init_40 : decode cX5_init 40 = .ok (.invokespecial 25, 3) := by decide +kernel
theorem dX5_init_43 : decode cX5_init 43 = .ok (.aastore, 1) := by decide +kernel
theorem dX5_init_44 : decode cX5_init 44 = .ok (.iinc 1 1, 3) := by decide +kernel
theorem dX5_init_47 : decode cX5_init 47 = .ok (.goto (-22), 3) := by decide +kernel
theorem dX5_init_50 : decode cX5_init 50 = .ok (.return_, 1) := by decide +kernel
theorem dX5_has_0 : decode cX5_has 0 = .ok (.iload_n 1, 1) := by decide +kernel
theorem dX5_has_1 : decode cX5_has 1 = .ok (.ifCond .lt 15, 3) := by decide +kernel
theorem dX5_has_4 : decode cX5_has 4 = .ok (.iload_n 1, 1) := by decide +kernel
theorem dX5_has_5 : decode cX5_has 5 = .ok (.aload_n 0, 1) := by decide +kernel
theorem dX5_has_6 : decode cX5_has 6 = .ok (.getfield 17, 3) := by decide +kernel
theorem dX5_has_9 : decode cX5_has 9 = .ok (.if_icmp .ge 7, 3) := by decide +kernel
theorem dX5_has_12 : decode cX5_has 12 = .ok (.iconst 1, 1) := by decide +kernel
theorem dX5_has_13 : decode cX5_has 13 = .ok (.goto 4, 3) := by decide +kernel
theorem dX5_has_16 : decode cX5_has 16 = .ok (.iconst 0, 1) := by decide +kernel
theorem dX5_has_17 : decode cX5_has 17 = .ok (.ireturn, 1) := by decide +kernel
theorem dX5_hasBehind_0 : decode cX5_hasBehind 0 = .ok (.iload_n 1, 1) := by decide +kernel
theorem dX5_hasBehind_1 : decode cX5_hasBehind 1 = .ok (.ifCond .lt 15, 3) := by decide +kernel
theorem dX5_hasBehind_4 : decode cX5_hasBehind 4 = .ok (.iload_n 1, 1) := by decide +kernel
theorem dX5_hasBehind_5 : decode cX5_hasBehind 5 = .ok (.aload_n 0, 1) := by decide +kernel
theorem dX5_hasBehind_6 : decode cX5_hasBehind 6 = .ok (.getfield 17, 3) := by decide +kernel
theorem dX5_hasBehind_9 : decode cX5_hasBehind 9 = .ok (.if_icmp .gt 7, 3) := by decide +kernel
theorem dX5_hasBehind_12 : decode cX5_hasBehind 12 = .ok (.iconst 1, 1) := by decide +kernel
theorem dX5_hasBehind_13 : decode cX5_hasBehind 13 = .ok (.goto 4, 3) := by decide +kernel
theorem dX5_hasBehind_16 : decode cX5_hasBehind 16 = .ok (.iconst 0, 1) := by decide +kernel
theorem dX5_hasBehind_17 : decode cX5_hasBehind 17 = .ok (.ireturn, 1) := by decide +kernel
theorem dX5_isWrite_0 : decode cX5_isWrite 0 = .ok (.aload_n 0, 1) := by decide +kernel
theorem dX5_isWrite_1 : decode cX5_isWrite 1 = .ok (.iload_n 1, 1) := by decide +kernel
theorem dX5_isWrite_2 : decode cX5_isWrite 2 = .ok (.invokevirtual 26, 3) := by decide +kernel
theorem dX5_isWrite_5 : decode cX5_isWrite 5 = .ok (.ifCond .eq 19, 3) := by decide +kernel
theorem dX5_isWrite_8 : decode cX5_isWrite 8 = .ok (.aload_n 0, 1) := by decide +kernel
theorem dX5_isWrite_9 : decode cX5_isWrite 9 = .ok (.getfield 11, 3) := by decide +kernel
theorem dX5_isWrite_12 : decode cX5_isWrite 12 = .ok (.iload_n 1, 1) := by decide +kernel
theorem dX5_isWrite_13 : decode cX5_isWrite 13 = .ok (.aaload, 1) := by decide +kernel
theorem dX5_isWrite_14 : decode cX5_isWrite 14 = .ok (.invokevirtual 30, 3) := by decide +kernel
theorem dX5_isWrite_17 : decode cX5_isWrite 17 = .ok (.ifCond .eq 7, 3) := by decide +kernel
theorem dX5_isWrite_20 : decode cX5_isWrite 20 = .ok (.iconst 1, 1) := by decide +kernel
theorem dX5_isWrite_21 : decode cX5_isWrite 21 = .ok (.goto 4, 3) := by decide +kernel
theorem dX5_isWrite_24 : decode cX5_isWrite 24 = .ok (.iconst 0, 1) := by decide +kernel
theorem dX5_isWrite_25 : decode cX5_isWrite 25 = .ok (.ireturn, 1) := by decide +kernel
theorem dX5_exchange_0 : decode cX5_exchange 0 = .ok (.aload_n 0, 1) := by decide +kernel
theorem dX5_exchange_1 : decode cX5_exchange 1 = .ok (.getfield 11, 3) := by decide +kernel
theorem dX5_exchange_4 : decode cX5_exchange 4 = .ok (.iload_n 1, 1) := by decide +kernel
theorem dX5_exchange_5 : decode cX5_exchange 5 = .ok (.aaload, 1) := by decide +kernel
theorem dX5_exchange_6 : decode cX5_exchange 6 = .ok (.astore_n 3, 1) := by decide +kernel
theorem dX5_exchange_7 : decode cX5_exchange 7 = .ok (.aload_n 0, 1) := by decide +kernel
theorem dX5_exchange_8 : decode cX5_exchange 8 = .ok (.getfield 11, 3) := by decide +kernel
theorem dX5_exchange_11 : decode cX5_exchange 11 = .ok (.iload_n 1, 1) := by decide +kernel
theorem dX5_exchange_12 : decode cX5_exchange 12 = .ok (.aload_n 0, 1) := by decide +kernel
theorem dX5_exchange_13 : decode cX5_exchange 13 = .ok (.getfield 11, 3) := by decide +kernel
theorem dX5_exchange_16 : decode cX5_exchange 16 = .ok (.iload_n 2, 1) := by decide +kernel
theorem dX5_exchange_17 : decode cX5_exchange 17 = .ok (.aaload, 1) := by decide +kernel
theorem dX5_exchange_18 : decode cX5_exchange 18 = .ok (.aastore, 1) := by decide +kernel
theorem dX5_exchange_19 : decode cX5_exchange 19 = .ok (.aload_n 0, 1) := by decide +kernel
theorem dX5_exchange_20 : decode cX5_exchange 20 = .ok (.getfield 11, 3) := by decide +kernel
theorem dX5_exchange_23 : decode cX5_exchange 23 = .ok (.iload_n 2, 1) := by decide +kernel
theorem dX5_exchange_24 : decode cX5_exchange 24 = .ok (.aload_n 3, 1) := by decide +kernel
theorem dX5_exchange_25 : decode cX5_exchange 25 = .ok (.aastore, 1) := by decide +kernel
theorem dX5_exchange_26 : decode cX5_exchange 26 = .ok (.return_, 1) := by decide +kernel
theorem dX5_writes_0 : decode cX5_writes 0 = .ok (.aload_n 0, 1) := by decide +kernel
theorem dX5_writes_1 : decode cX5_writes 1 = .ok (.iconst 0, 1) := by decide +kernel
theorem dX5_writes_2 : decode cX5_writes 2 = .ok (.aload_n 0, 1) := by decide +kernel
theorem dX5_writes_3 : decode cX5_writes 3 = .ok (.getfield 17, 3) := by decide +kernel
theorem dX5_writes_6 : decode cX5_writes 6 = .ok (.invokevirtual 34, 3) := by decide +kernel
theorem dX5_writes_9 : decode cX5_writes 9 = .ok (.ireturn, 1) := by decide +kernel
theorem dX5_writesWithin_0 : decode cX5_writesWithin 0 = .ok (.iconst 0, 1) := by decide +kernel
theorem dX5_writesWithin_1 : decode cX5_writesWithin 1 = .ok (.istore_n 3, 1) := by decide +kernel
theorem dX5_writesWithin_2 : decode cX5_writesWithin 2 = .ok (.iload_n 1, 1) := by decide +kernel
theorem dX5_writesWithin_3 : decode cX5_writesWithin 3 = .ok (.istore 4, 2) := by decide +kernel
theorem dX5_writesWithin_5 : decode cX5_writesWithin 5 = .ok (.iload 4, 2) := by decide +kernel
theorem dX5_writesWithin_7 : decode cX5_writesWithin 7 = .ok (.iload_n 2, 1) := by decide +kernel
theorem dX5_writesWithin_8 : decode cX5_writesWithin 8 = .ok (.if_icmp .ge 33, 3) := by decide +kernel
theorem dX5_writesWithin_11 : decode cX5_writesWithin 11 = .ok (.iload_n 3, 1) := by decide +kernel
theorem dX5_writesWithin_12 : decode cX5_writesWithin 12 = .ok (.aload_n 0, 1) := by decide +kernel
theorem dX5_writesWithin_13 : decode cX5_writesWithin 13 = .ok (.getfield 11, 3) := by decide +kernel
theorem dX5_writesWithin_16 : decode cX5_writesWithin 16 = .ok (.iload 4, 2) := by decide +kernel
theorem dX5_writesWithin_18 : decode cX5_writesWithin 18 = .ok (.aaload, 1) := by decide +kernel
theorem dX5_writesWithin_19 : decode cX5_writesWithin 19 = .ok (.invokevirtual 30, 3) := by decide +kernel
theorem dX5_writesWithin_22 : decode cX5_writesWithin 22 = .ok (.ifCond .eq 10, 3) := by decide +kernel
theorem dX5_writesWithin_25 : decode cX5_writesWithin 25 = .ok (.iconst 1, 1) := by decide +kernel
theorem dX5_writesWithin_26 : decode cX5_writesWithin 26 = .ok (.iload 4, 2) := by decide +kernel
theorem dX5_writesWithin_28 : decode cX5_writesWithin 28 = .ok (.ishl, 1) := by decide +kernel
theorem dX5_writesWithin_29 : decode cX5_writesWithin 29 = .ok (.goto 4, 3) := by decide +kernel
theorem dX5_writesWithin_32 : decode cX5_writesWithin 32 = .ok (.iconst 0, 1) := by decide +kernel
theorem dX5_writesWithin_33 : decode cX5_writesWithin 33 = .ok (.ior, 1) := by decide +kernel
theorem dX5_writesWithin_34 : decode cX5_writesWithin 34 = .ok (.istore_n 3, 1) := by decide +kernel
theorem dX5_writesWithin_35 : decode cX5_writesWithin 35 = .ok (.iinc 4 1, 3) := by decide +kernel
theorem dX5_writesWithin_38 : decode cX5_writesWithin 38 = .ok (.goto (-33), 3) := by decide +kernel
theorem dX5_writesWithin_41 : decode cX5_writesWithin 41 = .ok (.iload_n 3, 1) := by decide +kernel
theorem dX5_writesWithin_42 : decode cX5_writesWithin 42 = .ok (.ireturn, 1) := by decide +kernel
theorem dX5_epochStart_0 : decode cX5_epochStart 0 = .ok (.iload_n 1, 1) := by decide +kernel
theorem dX5_epochStart_1 : decode cX5_epochStart 1 = .ok (.istore_n 2, 1) := by decide +kernel
theorem dX5_epochStart_2 : decode cX5_epochStart 2 = .ok (.iload_n 2, 1) := by decide +kernel
theorem dX5_epochStart_3 : decode cX5_epochStart 3 = .ok (.ifCond .le 23, 3) := by decide +kernel
theorem dX5_epochStart_6 : decode cX5_epochStart 6 = .ok (.aload_n 0, 1) := by decide +kernel
theorem dX5_epochStart_7 : decode cX5_epochStart 7 = .ok (.getfield 11, 3) := by decide +kernel
theorem dX5_epochStart_10 : decode cX5_epochStart 10 = .ok (.iload_n 2, 1) := by decide +kernel
theorem dX5_epochStart_11 : decode cX5_epochStart 11 = .ok (.iconst 1, 1) := by decide +kernel
theorem dX5_epochStart_12 : decode cX5_epochStart 12 = .ok (.isub, 1) := by decide +kernel
theorem dX5_epochStart_13 : decode cX5_epochStart 13 = .ok (.aaload, 1) := by decide +kernel
theorem dX5_epochStart_14 : decode cX5_epochStart 14 = .ok (.invokevirtual 38, 3) := by decide +kernel
theorem dX5_epochStart_17 : decode cX5_epochStart 17 = .ok (.ifCond .ne 9, 3) := by decide +kernel
theorem dX5_epochStart_20 : decode cX5_epochStart 20 = .ok (.iinc 2 (-1), 3) := by decide +kernel
theorem dX5_epochStart_23 : decode cX5_epochStart 23 = .ok (.goto (-21), 3) := by decide +kernel
theorem dX5_epochStart_26 : decode cX5_epochStart 26 = .ok (.iload_n 2, 1) := by decide +kernel
theorem dX5_epochStart_27 : decode cX5_epochStart 27 = .ok (.ireturn, 1) := by decide +kernel
theorem dX5_epochEnd_0 : decode cX5_epochEnd 0 = .ok (.iload_n 1, 1) := by decide +kernel
theorem dX5_epochEnd_1 : decode cX5_epochEnd 1 = .ok (.istore_n 2, 1) := by decide +kernel
theorem dX5_epochEnd_2 : decode cX5_epochEnd 2 = .ok (.iload_n 2, 1) := by decide +kernel
theorem dX5_epochEnd_3 : decode cX5_epochEnd 3 = .ok (.aload_n 0, 1) := by decide +kernel
theorem dX5_epochEnd_4 : decode cX5_epochEnd 4 = .ok (.getfield 17, 3) := by decide +kernel
theorem dX5_epochEnd_7 : decode cX5_epochEnd 7 = .ok (.if_icmp .ge 21, 3) := by decide +kernel
theorem dX5_epochEnd_10 : decode cX5_epochEnd 10 = .ok (.aload_n 0, 1) := by decide +kernel
theorem dX5_epochEnd_11 : decode cX5_epochEnd 11 = .ok (.getfield 11, 3) := by decide +kernel
theorem dX5_epochEnd_14 : decode cX5_epochEnd 14 = .ok (.iload_n 2, 1) := by decide +kernel
theorem dX5_epochEnd_15 : decode cX5_epochEnd 15 = .ok (.aaload, 1) := by decide +kernel
theorem dX5_epochEnd_16 : decode cX5_epochEnd 16 = .ok (.invokevirtual 38, 3) := by decide +kernel
theorem dX5_epochEnd_19 : decode cX5_epochEnd 19 = .ok (.ifCond .ne 9, 3) := by decide +kernel
theorem dX5_epochEnd_22 : decode cX5_epochEnd 22 = .ok (.iinc 2 1, 3) := by decide +kernel
theorem dX5_epochEnd_25 : decode cX5_epochEnd 25 = .ok (.goto (-23), 3) := by decide +kernel
theorem dX5_epochEnd_28 : decode cX5_epochEnd 28 = .ok (.iload_n 2, 1) := by decide +kernel
theorem dX5_epochEnd_29 : decode cX5_epochEnd 29 = .ok (.ireturn, 1) := by decide +kernel
theorem dX5_behindLastFlush_0 : decode cX5_behindLastFlush 0 = .ok (.iload_n 1, 1) := by decide +kernel
theorem dX5_behindLastFlush_1 : decode cX5_behindLastFlush 1 = .ok (.istore_n 2, 1) := by decide +kernel
theorem dX5_behindLastFlush_2 : decode cX5_behindLastFlush 2 = .ok (.iload_n 2, 1) := by decide +kernel
theorem dX5_behindLastFlush_3 : decode cX5_behindLastFlush 3 = .ok (.ifCond .le 24, 3) := by decide +kernel
theorem dX5_behindLastFlush_6 : decode cX5_behindLastFlush 6 = .ok (.aload_n 0, 1) := by decide +kernel
theorem dX5_behindLastFlush_7 : decode cX5_behindLastFlush 7 = .ok (.getfield 11, 3) := by decide +kernel
theorem dX5_behindLastFlush_10 : decode cX5_behindLastFlush 10 = .ok (.iload_n 2, 1) := by decide +kernel
theorem dX5_behindLastFlush_11 : decode cX5_behindLastFlush 11 = .ok (.iconst 1, 1) := by decide +kernel
theorem dX5_behindLastFlush_12 : decode cX5_behindLastFlush 12 = .ok (.isub, 1) := by decide +kernel
theorem dX5_behindLastFlush_13 : decode cX5_behindLastFlush 13 = .ok (.aaload, 1) := by decide +kernel
theorem dX5_behindLastFlush_14 : decode cX5_behindLastFlush 14 = .ok (.getfield 41, 3) := by decide +kernel
theorem dX5_behindLastFlush_17 : decode cX5_behindLastFlush 17 = .ok (.iconst 3, 1) := by decide +kernel
theorem dX5_behindLastFlush_18 : decode cX5_behindLastFlush 18 = .ok (.if_icmp .eq 9, 3) := by decide +kernel
theorem dX5_behindLastFlush_21 : decode cX5_behindLastFlush 21 = .ok (.iinc 2 (-1), 3) := by decide +kernel
theorem dX5_behindLastFlush_24 : decode cX5_behindLastFlush 24 = .ok (.goto (-22), 3) := by decide +kernel
theorem dX5_behindLastFlush_27 : decode cX5_behindLastFlush 27 = .ok (.iload_n 2, 1) := by decide +kernel
theorem dX5_behindLastFlush_28 : decode cX5_behindLastFlush 28 = .ok (.ireturn, 1) := by decide +kernel
theorem dX5_epochsWithWrites_0 : decode cX5_epochsWithWrites 0 = .ok (.iconst 0, 1) := by decide +kernel
theorem dX5_epochsWithWrites_1 : decode cX5_epochsWithWrites 1 = .ok (.istore_n 1, 1) := by decide +kernel
theorem dX5_epochsWithWrites_2 : decode cX5_epochsWithWrites 2 = .ok (.iconst 0, 1) := by decide +kernel
theorem dX5_epochsWithWrites_3 : decode cX5_epochsWithWrites 3 = .ok (.istore_n 2, 1) := by decide +kernel
theorem dX5_epochsWithWrites_4 : decode cX5_epochsWithWrites 4 = .ok (.iconst 0, 1) := by decide +kernel
theorem dX5_epochsWithWrites_5 : decode cX5_epochsWithWrites 5 = .ok (.istore_n 3, 1) := by decide +kernel
theorem dX5_epochsWithWrites_6 : decode cX5_epochsWithWrites 6 = .ok (.iload_n 3, 1) := by decide +kernel
theorem dX5_epochsWithWrites_7 : decode cX5_epochsWithWrites 7 = .ok (.aload_n 0, 1) := by decide +kernel
theorem dX5_epochsWithWrites_8 : decode cX5_epochsWithWrites 8 = .ok (.getfield 17, 3) := by decide +kernel
theorem dX5_epochsWithWrites_11 : decode cX5_epochsWithWrites 11 = .ok (.if_icmp .ge 47, 3) := by decide +kernel
theorem dX5_epochsWithWrites_14 : decode cX5_epochsWithWrites 14 = .ok (.aload_n 0, 1) := by decide +kernel
theorem dX5_epochsWithWrites_15 : decode cX5_epochsWithWrites 15 = .ok (.getfield 11, 3) := by decide +kernel
theorem dX5_epochsWithWrites_18 : decode cX5_epochsWithWrites 18 = .ok (.iload_n 3, 1) := by decide +kernel
theorem dX5_epochsWithWrites_19 : decode cX5_epochsWithWrites 19 = .ok (.aaload, 1) := by decide +kernel
theorem dX5_epochsWithWrites_20 : decode cX5_epochsWithWrites 20 = .ok (.invokevirtual 30, 3) := by decide +kernel
theorem dX5_epochsWithWrites_23 : decode cX5_epochsWithWrites 23 = .ok (.ifCond .eq 15, 3) := by decide +kernel
theorem dX5_epochsWithWrites_26 : decode cX5_epochsWithWrites 26 = .ok (.iload_n 2, 1) := by decide +kernel
theorem dX5_epochsWithWrites_27 : decode cX5_epochsWithWrites 27 = .ok (.ifCond .ne 11, 3) := by decide +kernel
theorem dX5_epochsWithWrites_30 : decode cX5_epochsWithWrites 30 = .ok (.iinc 1 1, 3) := by decide +kernel
theorem dX5_epochsWithWrites_33 : decode cX5_epochsWithWrites 33 = .ok (.iconst 1, 1) := by decide +kernel
theorem dX5_epochsWithWrites_34 : decode cX5_epochsWithWrites 34 = .ok (.istore_n 2, 1) := by decide +kernel
theorem dX5_epochsWithWrites_35 : decode cX5_epochsWithWrites 35 = .ok (.goto 17, 3) := by decide +kernel
theorem dX5_epochsWithWrites_38 : decode cX5_epochsWithWrites 38 = .ok (.aload_n 0, 1) := by decide +kernel
theorem dX5_epochsWithWrites_39 : decode cX5_epochsWithWrites 39 = .ok (.getfield 11, 3) := by decide +kernel
theorem dX5_epochsWithWrites_42 : decode cX5_epochsWithWrites 42 = .ok (.iload_n 3, 1) := by decide +kernel
theorem dX5_epochsWithWrites_43 : decode cX5_epochsWithWrites 43 = .ok (.aaload, 1) := by decide +kernel
theorem dX5_epochsWithWrites_44 : decode cX5_epochsWithWrites 44 = .ok (.invokevirtual 38, 3) := by decide +kernel
theorem dX5_epochsWithWrites_47 : decode cX5_epochsWithWrites 47 = .ok (.ifCond .eq 5, 3) := by decide +kernel
theorem dX5_epochsWithWrites_50 : decode cX5_epochsWithWrites 50 = .ok (.iconst 0, 1) := by decide +kernel
theorem dX5_epochsWithWrites_51 : decode cX5_epochsWithWrites 51 = .ok (.istore_n 2, 1) := by decide +kernel
theorem dX5_epochsWithWrites_52 : decode cX5_epochsWithWrites 52 = .ok (.iinc 3 1, 3) := by decide +kernel
theorem dX5_epochsWithWrites_55 : decode cX5_epochsWithWrites 55 = .ok (.goto (-49), 3) := by decide +kernel
theorem dX5_epochsWithWrites_58 : decode cX5_epochsWithWrites 58 = .ok (.iload_n 1, 1) := by decide +kernel
theorem dX5_epochsWithWrites_59 : decode cX5_epochsWithWrites 59 = .ok (.ireturn, 1) := by decide +kernel
theorem dX5_plateOf_0 : decode cX5_plateOf 0 = .ok (.aload_n 0, 1) := by decide +kernel
theorem dX5_plateOf_1 : decode cX5_plateOf 1 = .ok (.getfield 21, 3) := by decide +kernel
theorem dX5_plateOf_4 : decode cX5_plateOf 4 = .ok (.lstore_n 2, 1) := by decide +kernel
theorem dX5_plateOf_5 : decode cX5_plateOf 5 = .ok (.iconst 0, 1) := by decide +kernel
theorem dX5_plateOf_6 : decode cX5_plateOf 6 = .ok (.istore 4, 2) := by decide +kernel
theorem dX5_plateOf_8 : decode cX5_plateOf 8 = .ok (.iload 4, 2) := by decide +kernel
theorem dX5_plateOf_10 : decode cX5_plateOf 10 = .ok (.aload_n 0, 1) := by decide +kernel
theorem dX5_plateOf_11 : decode cX5_plateOf 11 = .ok (.getfield 17, 3) := by decide +kernel
theorem dX5_plateOf_14 : decode cX5_plateOf 14 = .ok (.if_icmp .ge 30, 3) := by decide +kernel
theorem dX5_plateOf_17 : decode cX5_plateOf 17 = .ok (.iload_n 1, 1) := by decide +kernel
theorem dX5_plateOf_18 : decode cX5_plateOf 18 = .ok (.iload 4, 2) := by decide +kernel
theorem dX5_plateOf_20 : decode cX5_plateOf 20 = .ok (.ishr, 1) := by decide +kernel
theorem dX5_plateOf_21 : decode cX5_plateOf 21 = .ok (.iconst 1, 1) := by decide +kernel
theorem dX5_plateOf_22 : decode cX5_plateOf 22 = .ok (.iand, 1) := by decide +kernel
theorem dX5_plateOf_23 : decode cX5_plateOf 23 = .ok (.ifCond .eq 15, 3) := by decide +kernel
theorem dX5_plateOf_26 : decode cX5_plateOf 26 = .ok (.aload_n 0, 1) := by decide +kernel
theorem dX5_plateOf_27 : decode cX5_plateOf 27 = .ok (.getfield 11, 3) := by decide +kernel
theorem dX5_plateOf_30 : decode cX5_plateOf 30 = .ok (.iload 4, 2) := by decide +kernel
theorem dX5_plateOf_32 : decode cX5_plateOf 32 = .ok (.aaload, 1) := by decide +kernel
theorem dX5_plateOf_33 : decode cX5_plateOf 33 = .ok (.lload_n 2, 1) := by decide +kernel
theorem dX5_plateOf_34 : decode cX5_plateOf 34 = .ok (.invokevirtual 44, 3) := by decide +kernel
theorem dX5_plateOf_37 : decode cX5_plateOf 37 = .ok (.lstore_n 2, 1) := by decide +kernel
theorem dX5_plateOf_38 : decode cX5_plateOf 38 = .ok (.iinc 4 1, 3) := by decide +kernel
theorem dX5_plateOf_41 : decode cX5_plateOf 41 = .ok (.goto (-33), 3) := by decide +kernel
theorem dX5_plateOf_44 : decode cX5_plateOf 44 = .ok (.lload_n 2, 1) := by decide +kernel
theorem dX5_plateOf_45 : decode cX5_plateOf 45 = .ok (.lreturn, 1) := by decide +kernel
theorem dX5_shownOf_0 : decode cX5_shownOf 0 = .ok (.iconst 0, 1) := by decide +kernel
theorem dX5_shownOf_1 : decode cX5_shownOf 1 = .ok (.istore_n 2, 1) := by decide +kernel
theorem dX5_shownOf_2 : decode cX5_shownOf 2 = .ok (.iconst 0, 1) := by decide +kernel
theorem dX5_shownOf_3 : decode cX5_shownOf 3 = .ok (.istore_n 3, 1) := by decide +kernel
theorem dX5_shownOf_4 : decode cX5_shownOf 4 = .ok (.aload_n 0, 1) := by decide +kernel
theorem dX5_shownOf_5 : decode cX5_shownOf 5 = .ok (.getfield 17, 3) := by decide +kernel
theorem dX5_shownOf_8 : decode cX5_shownOf 8 = .ok (.iconst 1, 1) := by decide +kernel
theorem dX5_shownOf_9 : decode cX5_shownOf 9 = .ok (.isub, 1) := by decide +kernel
theorem dX5_shownOf_10 : decode cX5_shownOf 10 = .ok (.istore 4, 2) := by decide +kernel
theorem dX5_shownOf_12 : decode cX5_shownOf 12 = .ok (.iload 4, 2) := by decide +kernel
theorem dX5_shownOf_14 : decode cX5_shownOf 14 = .ok (.ifCond .lt 55, 3) := by decide +kernel
theorem dX5_shownOf_17 : decode cX5_shownOf 17 = .ok (.iload_n 1, 1) := by decide +kernel
theorem dX5_shownOf_18 : decode cX5_shownOf 18 = .ok (.iload 4, 2) := by decide +kernel
theorem dX5_shownOf_20 : decode cX5_shownOf 20 = .ok (.ishr, 1) := by decide +kernel
theorem dX5_shownOf_21 : decode cX5_shownOf 21 = .ok (.iconst 1, 1) := by decide +kernel
theorem dX5_shownOf_22 : decode cX5_shownOf 22 = .ok (.iand, 1) := by decide +kernel
theorem dX5_shownOf_23 : decode cX5_shownOf 23 = .ok (.ifCond .eq 40, 3) := by decide +kernel
theorem dX5_shownOf_26 : decode cX5_shownOf 26 = .ok (.aload_n 0, 1) := by decide +kernel
theorem dX5_shownOf_27 : decode cX5_shownOf 27 = .ok (.getfield 11, 3) := by decide +kernel
theorem dX5_shownOf_30 : decode cX5_shownOf 30 = .ok (.iload 4, 2) := by decide +kernel
theorem dX5_shownOf_32 : decode cX5_shownOf 32 = .ok (.aaload, 1) := by decide +kernel
theorem dX5_shownOf_33 : decode cX5_shownOf 33 = .ok (.invokevirtual 48, 3) := by decide +kernel
theorem dX5_shownOf_36 : decode cX5_shownOf 36 = .ok (.istore 5, 2) := by decide +kernel
theorem dX5_shownOf_38 : decode cX5_shownOf 38 = .ok (.iload_n 3, 1) := by decide +kernel
theorem dX5_shownOf_39 : decode cX5_shownOf 39 = .ok (.iload 5, 2) := by decide +kernel
theorem dX5_shownOf_41 : decode cX5_shownOf 41 = .ok (.iload_n 2, 1) := by decide +kernel
theorem dX5_shownOf_42 : decode cX5_shownOf 42 = .ok (.iconst (-1), 1) := by decide +kernel
theorem dX5_shownOf_43 : decode cX5_shownOf 43 = .ok (.ixor, 1) := by decide +kernel
theorem dX5_shownOf_44 : decode cX5_shownOf 44 = .ok (.iand, 1) := by decide +kernel
theorem dX5_shownOf_45 : decode cX5_shownOf 45 = .ok (.ifCond .eq 10, 3) := by decide +kernel
theorem dX5_shownOf_48 : decode cX5_shownOf 48 = .ok (.iconst 1, 1) := by decide +kernel
theorem dX5_shownOf_49 : decode cX5_shownOf 49 = .ok (.iload 4, 2) := by decide +kernel
theorem dX5_shownOf_51 : decode cX5_shownOf 51 = .ok (.ishl, 1) := by decide +kernel
theorem dX5_shownOf_52 : decode cX5_shownOf 52 = .ok (.goto 4, 3) := by decide +kernel
theorem dX5_shownOf_55 : decode cX5_shownOf 55 = .ok (.iconst 0, 1) := by decide +kernel
theorem dX5_shownOf_56 : decode cX5_shownOf 56 = .ok (.ior, 1) := by decide +kernel
theorem dX5_shownOf_57 : decode cX5_shownOf 57 = .ok (.istore_n 3, 1) := by decide +kernel
theorem dX5_shownOf_58 : decode cX5_shownOf 58 = .ok (.iload_n 2, 1) := by decide +kernel
theorem dX5_shownOf_59 : decode cX5_shownOf 59 = .ok (.iload 5, 2) := by decide +kernel
theorem dX5_shownOf_61 : decode cX5_shownOf 61 = .ok (.ior, 1) := by decide +kernel
theorem dX5_shownOf_62 : decode cX5_shownOf 62 = .ok (.istore_n 2, 1) := by decide +kernel
theorem dX5_shownOf_63 : decode cX5_shownOf 63 = .ok (.iinc 4 (-1), 3) := by decide +kernel
theorem dX5_shownOf_66 : decode cX5_shownOf 66 = .ok (.goto (-54), 3) := by decide +kernel
theorem dX5_shownOf_69 : decode cX5_shownOf 69 = .ok (.iload_n 3, 1) := by decide +kernel
theorem dX5_shownOf_70 : decode cX5_shownOf 70 = .ok (.ireturn, 1) := by decide +kernel
theorem dX5_dueAt_0 : decode cX5_dueAt 0 = .ok (.iload_n 2, 1) := by decide +kernel
theorem dX5_dueAt_1 : decode cX5_dueAt 1 = .ok (.bipush 64, 2) := by decide +kernel
theorem dX5_dueAt_3 : decode cX5_dueAt 3 = .ok (.ior, 1) := by decide +kernel
theorem dX5_dueAt_4 : decode cX5_dueAt 4 = .ok (.istore_n 3, 1) := by decide +kernel
theorem dX5_dueAt_5 : decode cX5_dueAt 5 = .ok (.iconst 0, 1) := by decide +kernel
theorem dX5_dueAt_6 : decode cX5_dueAt 6 = .ok (.istore 4, 2) := by decide +kernel
theorem dX5_dueAt_8 : decode cX5_dueAt 8 = .ok (.iload 4, 2) := by decide +kernel
theorem dX5_dueAt_10 : decode cX5_dueAt 10 = .ok (.iload_n 1, 1) := by decide +kernel
theorem dX5_dueAt_11 : decode cX5_dueAt 11 = .ok (.if_icmp .ge 42, 3) := by decide +kernel
theorem dX5_dueAt_14 : decode cX5_dueAt 14 = .ok (.iload_n 3, 1) := by decide +kernel
theorem dX5_dueAt_15 : decode cX5_dueAt 15 = .ok (.aload_n 0, 1) := by decide +kernel
theorem dX5_dueAt_16 : decode cX5_dueAt 16 = .ok (.getfield 11, 3) := by decide +kernel
theorem dX5_dueAt_19 : decode cX5_dueAt 19 = .ok (.iload 4, 2) := by decide +kernel
theorem dX5_dueAt_21 : decode cX5_dueAt 21 = .ok (.aaload, 1) := by decide +kernel
theorem dX5_dueAt_22 : decode cX5_dueAt 22 = .ok (.getfield 41, 3) := by decide +kernel
theorem dX5_dueAt_25 : decode cX5_dueAt 25 = .ok (.iconst 4, 1) := by decide +kernel
theorem dX5_dueAt_26 : decode cX5_dueAt 26 = .ok (.if_icmp .ne 18, 3) := by decide +kernel
theorem dX5_dueAt_29 : decode cX5_dueAt 29 = .ok (.iconst 1, 1) := by decide +kernel
theorem dX5_dueAt_30 : decode cX5_dueAt 30 = .ok (.aload_n 0, 1) := by decide +kernel
theorem dX5_dueAt_31 : decode cX5_dueAt 31 = .ok (.getfield 11, 3) := by decide +kernel
theorem dX5_dueAt_34 : decode cX5_dueAt 34 = .ok (.iload 4, 2) := by decide +kernel
theorem dX5_dueAt_36 : decode cX5_dueAt 36 = .ok (.aaload, 1) := by decide +kernel
theorem dX5_dueAt_37 : decode cX5_dueAt 37 = .ok (.getfield 52, 3) := by decide +kernel
theorem dX5_dueAt_40 : decode cX5_dueAt 40 = .ok (.ishl, 1) := by decide +kernel
theorem dX5_dueAt_41 : decode cX5_dueAt 41 = .ok (.goto 4, 3) := by decide +kernel
theorem dX5_dueAt_44 : decode cX5_dueAt 44 = .ok (.iconst 0, 1) := by decide +kernel
theorem dX5_dueAt_45 : decode cX5_dueAt 45 = .ok (.ior, 1) := by decide +kernel
theorem dX5_dueAt_46 : decode cX5_dueAt 46 = .ok (.istore_n 3, 1) := by decide +kernel
theorem dX5_dueAt_47 : decode cX5_dueAt 47 = .ok (.iinc 4 1, 3) := by decide +kernel
theorem dX5_dueAt_50 : decode cX5_dueAt 50 = .ok (.goto (-42), 3) := by decide +kernel
theorem dX5_dueAt_53 : decode cX5_dueAt 53 = .ok (.iload_n 3, 1) := by decide +kernel
theorem dX5_dueAt_54 : decode cX5_dueAt 54 = .ok (.ireturn, 1) := by decide +kernel
theorem dX6_init_0 : decode cX6_init 0 = .ok (.aload_n 0, 1) := by decide +kernel
theorem dX6_init_1 : decode cX6_init 1 = .ok (.invokespecial 3, 3) := by decide +kernel
theorem dX6_init_4 : decode cX6_init 4 = .ok (.aload_n 0, 1) := by decide +kernel
theorem dX6_init_5 : decode cX6_init 5 = .ok (.new 9, 3) := by decide +kernel
theorem dX6_init_8 : decode cX6_init 8 = .ok (.dup, 1) := by decide +kernel
theorem dX6_init_9 : decode cX6_init 9 = .ok (.invokespecial 11, 3) := by decide +kernel
theorem dX6_init_12 : decode cX6_init 12 = .ok (.putfield 12, 3) := by decide +kernel
theorem dX6_init_15 : decode cX6_init 15 = .ok (.aload_n 0, 1) := by decide +kernel
theorem dX6_init_16 : decode cX6_init 16 = .ok (.bipush 60, 2) := by decide +kernel
theorem dX6_init_18 : decode cX6_init 18 = .ok (.newarray .char, 2) := by decide +kernel
theorem dX6_init_20 : decode cX6_init 20 = .ok (.putfield 18, 3) := by decide +kernel
theorem dX6_init_23 : decode cX6_init 23 = .ok (.aload_n 0, 1) := by decide +kernel
theorem dX6_init_24 : decode cX6_init 24 = .ok (.iconst 0, 1) := by decide +kernel
theorem dX6_init_25 : decode cX6_init 25 = .ok (.putfield 22, 3) := by decide +kernel
theorem dX6_init_28 : decode cX6_init 28 = .ok (.aload_n 0, 1) := by decide +kernel
theorem dX6_init_29 : decode cX6_init 29 = .ok (.iconst 0, 1) := by decide +kernel
theorem dX6_init_30 : decode cX6_init 30 = .ok (.putfield 26, 3) := by decide +kernel
theorem dX6_init_33 : decode cX6_init 33 = .ok (.aload_n 0, 1) := by decide +kernel
theorem dX6_init_34 : decode cX6_init 34 = .ok (.iconst 0, 1) := by decide +kernel
theorem dX6_init_35 : decode cX6_init 35 = .ok (.putfield 29, 3) := by decide +kernel
theorem dX6_init_38 : decode cX6_init 38 = .ok (.aload_n 0, 1) := by decide +kernel
theorem dX6_init_39 : decode cX6_init 39 = .ok (.iconst 0, 1) := by decide +kernel
theorem dX6_init_40 : decode cX6_init 40 = .ok (.putfield 32, 3) := by decide +kernel
theorem dX6_init_43 : decode cX6_init 43 = .ok (.aload_n 0, 1) := by decide +kernel
theorem dX6_init_44 : decode cX6_init 44 = .ok (.bipush 61, 2) := by decide +kernel
theorem dX6_init_46 : decode cX6_init 46 = .ok (.putfield 35, 3) := by decide +kernel
theorem dX6_init_49 : decode cX6_init 49 = .ok (.aload_n 0, 1) := by decide +kernel
theorem dX6_init_50 : decode cX6_init 50 = .ok (.iconst 0, 1) := by decide +kernel
theorem dX6_init_51 : decode cX6_init 51 = .ok (.putfield 39, 3) := by decide +kernel
theorem dX6_init_54 : decode cX6_init 54 = .ok (.aload_n 0, 1) := by decide +kernel
theorem dX6_init_55 : decode cX6_init 55 = .ok (.iconst 0, 1) := by decide +kernel
theorem dX6_init_56 : decode cX6_init 56 = .ok (.putfield 43, 3) := by decide +kernel
theorem dX6_init_59 : decode cX6_init 59 = .ok (.return_, 1) := by decide +kernel
theorem dX6_goodOf_0 : decode cX6_goodOf 0 = .ok (.aload_n 0, 1) := by decide +kernel
theorem dX6_goodOf_1 : decode cX6_goodOf 1 = .ok (.iload_n 2, 1) := by decide +kernel
theorem dX6_goodOf_2 : decode cX6_goodOf 2 = .ok (.invokevirtual 46, 3) := by decide +kernel
theorem dX6_goodOf_5 : decode cX6_goodOf 5 = .ok (.iconst 0, 1) := by decide +kernel
theorem dX6_goodOf_6 : decode cX6_goodOf 6 = .ok (.istore_n 3, 1) := by decide +kernel
theorem dX6_goodOf_7 : decode cX6_goodOf 7 = .ok (.iload_n 3, 1) := by decide +kernel
theorem dX6_goodOf_8 : decode cX6_goodOf 8 = .ok (.aload_n 1, 1) := by decide +kernel
theorem dX6_goodOf_9 : decode cX6_goodOf 9 = .ok (.getfield 50, 3) := by decide +kernel
theorem dX6_goodOf_12 : decode cX6_goodOf 12 = .ok (.if_icmp .ge 22, 3) := by decide +kernel
theorem dX6_goodOf_15 : decode cX6_goodOf 15 = .ok (.aload_n 0, 1) := by decide +kernel
theorem dX6_goodOf_16 : decode cX6_goodOf 16 = .ok (.aload_n 1, 1) := by decide +kernel
theorem dX6_goodOf_17 : decode cX6_goodOf 17 = .ok (.getfield 55, 3) := by decide +kernel
theorem dX6_goodOf_20 : decode cX6_goodOf 20 = .ok (.iload_n 3, 1) := by decide +kernel
theorem dX6_goodOf_21 : decode cX6_goodOf 21 = .ok (.caload, 1) := by decide +kernel
theorem dX6_goodOf_22 : decode cX6_goodOf 22 = .ok (.invokevirtual 58, 3) := by decide +kernel
theorem dX6_goodOf_25 : decode cX6_goodOf 25 = .ok (.ifCond .eq 9, 3) := by decide +kernel
theorem dX6_goodOf_28 : decode cX6_goodOf 28 = .ok (.iinc 3 1, 3) := by decide +kernel
theorem dX6_goodOf_31 : decode cX6_goodOf 31 = .ok (.goto (-24), 3) := by decide +kernel
theorem dX6_goodOf_34 : decode cX6_goodOf 34 = .ok (.iload_n 3, 1) := by decide +kernel
theorem dX6_goodOf_35 : decode cX6_goodOf 35 = .ok (.ireturn, 1) := by decide +kernel
theorem dX6_begin_0 : decode cX6_begin 0 = .ok (.aload_n 0, 1) := by decide +kernel
theorem dX6_begin_1 : decode cX6_begin 1 = .ok (.getfield 12, 3) := by decide +kernel
theorem dX6_begin_4 : decode cX6_begin 4 = .ok (.invokevirtual 62, 3) := by decide +kernel
theorem dX6_begin_7 : decode cX6_begin 7 = .ok (.aload_n 0, 1) := by decide +kernel
theorem dX6_begin_8 : decode cX6_begin 8 = .ok (.iconst 0, 1) := by decide +kernel
theorem dX6_begin_9 : decode cX6_begin 9 = .ok (.putfield 22, 3) := by decide +kernel
theorem dX6_begin_12 : decode cX6_begin 12 = .ok (.aload_n 0, 1) := by decide +kernel
theorem dX6_begin_13 : decode cX6_begin 13 = .ok (.iconst 0, 1) := by decide +kernel
theorem dX6_begin_14 : decode cX6_begin 14 = .ok (.putfield 26, 3) := by decide +kernel
theorem dX6_begin_17 : decode cX6_begin 17 = .ok (.aload_n 0, 1) := by decide +kernel
theorem dX6_begin_18 : decode cX6_begin 18 = .ok (.iconst 0, 1) := by decide +kernel
theorem dX6_begin_19 : decode cX6_begin 19 = .ok (.putfield 29, 3) := by decide +kernel
theorem dX6_begin_22 : decode cX6_begin 22 = .ok (.aload_n 0, 1) := by decide +kernel
theorem dX6_begin_23 : decode cX6_begin 23 = .ok (.iconst 0, 1) := by decide +kernel
theorem dX6_begin_24 : decode cX6_begin 24 = .ok (.putfield 32, 3) := by decide +kernel
theorem dX6_begin_27 : decode cX6_begin 27 = .ok (.aload_n 0, 1) := by decide +kernel
theorem dX6_begin_28 : decode cX6_begin 28 = .ok (.iconst 0, 1) := by decide +kernel
theorem dX6_begin_29 : decode cX6_begin 29 = .ok (.putfield 39, 3) := by decide +kernel
theorem dX6_begin_32 : decode cX6_begin 32 = .ok (.aload_n 0, 1) := by decide +kernel
theorem dX6_begin_33 : decode cX6_begin 33 = .ok (.iload_n 1, 1) := by decide +kernel
theorem dX6_begin_34 : decode cX6_begin 34 = .ok (.putfield 43, 3) := by decide +kernel
theorem dX6_begin_37 : decode cX6_begin 37 = .ok (.return_, 1) := by decide +kernel
theorem dX6_isWhole_0 : decode cX6_isWhole 0 = .ok (.aload_n 0, 1) := by decide +kernel
theorem dX6_isWhole_1 : decode cX6_isWhole 1 = .ok (.getfield 29, 3) := by decide +kernel
theorem dX6_isWhole_4 : decode cX6_isWhole 4 = .ok (.iconst 2, 1) := by decide +kernel
theorem dX6_isWhole_5 : decode cX6_isWhole 5 = .ok (.if_icmp .eq 11, 3) := by decide +kernel
theorem dX6_isWhole_8 : decode cX6_isWhole 8 = .ok (.aload_n 0, 1) := by decide +kernel
theorem dX6_isWhole_9 : decode cX6_isWhole 9 = .ok (.getfield 29, 3) := by decide +kernel
theorem dX6_isWhole_12 : decode cX6_isWhole 12 = .ok (.iconst 3, 1) := by decide +kernel
theorem dX6_isWhole_13 : decode cX6_isWhole 13 = .ok (.if_icmp .ne 7, 3) := by decide +kernel
theorem dX6_isWhole_16 : decode cX6_isWhole 16 = .ok (.iconst 1, 1) := by decide +kernel
theorem dX6_isWhole_17 : decode cX6_isWhole 17 = .ok (.goto 4, 3) := by decide +kernel
theorem dX6_isWhole_20 : decode cX6_isWhole 20 = .ok (.iconst 0, 1) := by decide +kernel
theorem dX6_isWhole_21 : decode cX6_isWhole 21 = .ok (.istore_n 1, 1) := by decide +kernel
theorem dX6_isWhole_22 : decode cX6_isWhole 22 = .ok (.aload_n 0, 1) := by decide +kernel
theorem dX6_isWhole_23 : decode cX6_isWhole 23 = .ok (.getfield 43, 3) := by decide +kernel
theorem dX6_isWhole_26 : decode cX6_isWhole 26 = .ok (.ifCond .eq 21, 3) := by decide +kernel
theorem dX6_isWhole_29 : decode cX6_isWhole 29 = .ok (.iload_n 1, 1) := by decide +kernel
theorem dX6_isWhole_30 : decode cX6_isWhole 30 = .ok (.ifCond .eq 15, 3) := by decide +kernel
theorem dX6_isWhole_33 : decode cX6_isWhole 33 = .ok (.aload_n 0, 1) := by decide +kernel
theorem dX6_isWhole_34 : decode cX6_isWhole 34 = .ok (.getfield 32, 3) := by decide +kernel
theorem dX6_isWhole_37 : decode cX6_isWhole 37 = .ok (.iconst 2, 1) := by decide +kernel
theorem dX6_isWhole_38 : decode cX6_isWhole 38 = .ok (.if_icmp .ne 7, 3) := by decide +kernel
theorem dX6_isWhole_41 : decode cX6_isWhole 41 = .ok (.iconst 1, 1) := by decide +kernel
theorem dX6_isWhole_42 : decode cX6_isWhole 42 = .ok (.goto 4, 3) := by decide +kernel
theorem dX6_isWhole_45 : decode cX6_isWhole 45 = .ok (.iconst 0, 1) := by decide +kernel
theorem dX6_isWhole_46 : decode cX6_isWhole 46 = .ok (.ireturn, 1) := by decide +kernel
theorem dX6_isWhole_47 : decode cX6_isWhole 47 = .ok (.iload_n 1, 1) := by decide +kernel
theorem dX6_isWhole_48 : decode cX6_isWhole 48 = .ok (.ifCond .eq 15, 3) := by decide +kernel
theorem dX6_isWhole_51 : decode cX6_isWhole 51 = .ok (.aload_n 0, 1) := by decide +kernel
theorem dX6_isWhole_52 : decode cX6_isWhole 52 = .ok (.getfield 32, 3) := by decide +kernel
theorem dX6_isWhole_55 : decode cX6_isWhole 55 = .ok (.iconst 1, 1) := by decide +kernel
theorem dX6_isWhole_56 : decode cX6_isWhole 56 = .ok (.if_icmp .ne 7, 3) := by decide +kernel
theorem dX6_isWhole_59 : decode cX6_isWhole 59 = .ok (.aload_n 0, 1) := by decide +kernel
theorem dX6_isWhole_60 : decode cX6_isWhole 60 = .ok (.invokevirtual 65, 3) := by decide +kernel
theorem dX6_isWhole_63 : decode cX6_isWhole 63 = .ok (.aload_n 0, 1) := by decide +kernel
theorem dX6_isWhole_64 : decode cX6_isWhole 64 = .ok (.getfield 29, 3) := by decide +kernel
theorem dX6_isWhole_67 : decode cX6_isWhole 67 = .ok (.iconst 4, 1) := by decide +kernel
theorem dX6_isWhole_68 : decode cX6_isWhole 68 = .ok (.if_icmp .ne 10, 3) := by decide +kernel
theorem dX6_isWhole_71 : decode cX6_isWhole 71 = .ok (.aload_n 0, 1) := by decide +kernel
theorem dX6_isWhole_72 : decode cX6_isWhole 72 = .ok (.getfield 26, 3) := by decide +kernel
theorem dX6_isWhole_75 : decode cX6_isWhole 75 = .ok (.ifCond .eq 5, 3) := by decide +kernel
theorem dX6_isWhole_78 : decode cX6_isWhole 78 = .ok (.iconst 0, 1) := by decide +kernel
theorem dX6_isWhole_79 : decode cX6_isWhole 79 = .ok (.ireturn, 1) := by decide +kernel
theorem dX6_isWhole_80 : decode cX6_isWhole 80 = .ok (.aload_n 0, 1) := by decide +kernel
theorem dX6_isWhole_81 : decode cX6_isWhole 81 = .ok (.invokevirtual 68, 3) := by decide +kernel
theorem dX6_isWhole_84 : decode cX6_isWhole 84 = .ok (.aload_n 0, 1) := by decide +kernel
theorem dX6_isWhole_85 : decode cX6_isWhole 85 = .ok (.getfield 12, 3) := by decide +kernel
theorem dX6_isWhole_88 : decode cX6_isWhole 88 = .ok (.invokevirtual 71, 3) := by decide +kernel
theorem dX6_isWhole_91 : decode cX6_isWhole 91 = .ok (.iconst 1, 1) := by decide +kernel
theorem dX6_isWhole_92 : decode cX6_isWhole 92 = .ok (.ireturn, 1) := by decide +kernel
theorem dX6_takes_0 : decode cX6_takes 0 = .ok (.aload_n 0, 1) := by decide +kernel
theorem dX6_takes_1 : decode cX6_takes 1 = .ok (.iload_n 1, 1) := by decide +kernel
theorem dX6_takes_2 : decode cX6_takes 2 = .ok (.invokevirtual 74, 3) := by decide +kernel
theorem dX6_takes_5 : decode cX6_takes 5 = .ok (.ifCond .eq 7, 3) := by decide +kernel
theorem dX6_takes_8 : decode cX6_takes 8 = .ok (.aload_n 0, 1) := by decide +kernel
theorem dX6_takes_9 : decode cX6_takes 9 = .ok (.invokevirtual 65, 3) := by decide +kernel
theorem dX6_takes_12 : decode cX6_takes 12 = .ok (.aload_n 0, 1) := by decide +kernel
theorem dX6_takes_13 : decode cX6_takes 13 = .ok (.getfield 29, 3) := by decide +kernel
theorem dX6_takes_16 : decode cX6_takes 16 = .ok (.tableswitch 91 0 5 #[40, 46, 52, 73, 79, 85], 40) := by decide +kernel
theorem dX6_takes_56 : decode cX6_takes 56 = .ok (.aload_n 0, 1) := by decide +kernel
theorem dX6_takes_57 : decode cX6_takes 57 = .ok (.iload_n 1, 1) := by decide +kernel
theorem dX6_takes_58 : decode cX6_takes 58 = .ok (.invokevirtual 77, 3) := by decide +kernel
theorem dX6_takes_61 : decode cX6_takes 61 = .ok (.ireturn, 1) := by decide +kernel
theorem dX6_takes_62 : decode cX6_takes 62 = .ok (.aload_n 0, 1) := by decide +kernel
theorem dX6_takes_63 : decode cX6_takes 63 = .ok (.iload_n 1, 1) := by decide +kernel
theorem dX6_takes_64 : decode cX6_takes 64 = .ok (.invokevirtual 80, 3) := by decide +kernel
theorem dX6_takes_67 : decode cX6_takes 67 = .ok (.ireturn, 1) := by decide +kernel
theorem dX6_takes_68 : decode cX6_takes 68 = .ok (.iload_n 1, 1) := by decide +kernel
theorem dX6_takes_69 : decode cX6_takes 69 = .ok (.invokestatic 83, 3) := by decide +kernel
theorem dX6_takes_72 : decode cX6_takes 72 = .ok (.ifCond .eq 11, 3) := by decide +kernel
theorem dX6_takes_75 : decode cX6_takes 75 = .ok (.aload_n 0, 1) := by decide +kernel
theorem dX6_takes_76 : decode cX6_takes 76 = .ok (.iload_n 1, 1) := by decide +kernel
theorem dX6_takes_77 : decode cX6_takes 77 = .ok (.invokevirtual 86, 3) := by decide +kernel
theorem dX6_takes_80 : decode cX6_takes 80 = .ok (.goto 8, 3) := by decide +kernel
theorem dX6_takes_83 : decode cX6_takes 83 = .ok (.aload_n 0, 1) := by decide +kernel
theorem dX6_takes_84 : decode cX6_takes 84 = .ok (.iload_n 1, 1) := by decide +kernel
theorem dX6_takes_85 : decode cX6_takes 85 = .ok (.invokevirtual 89, 3) := by decide +kernel
theorem dX6_takes_88 : decode cX6_takes 88 = .ok (.ireturn, 1) := by decide +kernel
theorem dX6_takes_89 : decode cX6_takes 89 = .ok (.aload_n 0, 1) := by decide +kernel
theorem dX6_takes_90 : decode cX6_takes 90 = .ok (.iload_n 1, 1) := by decide +kernel
theorem dX6_takes_91 : decode cX6_takes 91 = .ok (.invokevirtual 89, 3) := by decide +kernel
theorem dX6_takes_94 : decode cX6_takes 94 = .ok (.ireturn, 1) := by decide +kernel
theorem dX6_takes_95 : decode cX6_takes 95 = .ok (.aload_n 0, 1) := by decide +kernel
theorem dX6_takes_96 : decode cX6_takes 96 = .ok (.iload_n 1, 1) := by decide +kernel
theorem dX6_takes_97 : decode cX6_takes 97 = .ok (.invokevirtual 92, 3) := by decide +kernel
theorem dX6_takes_100 : decode cX6_takes 100 = .ok (.ireturn, 1) := by decide +kernel
theorem dX6_takes_101 : decode cX6_takes 101 = .ok (.aload_n 0, 1) := by decide +kernel
theorem dX6_takes_102 : decode cX6_takes 102 = .ok (.iload_n 1, 1) := by decide +kernel
theorem dX6_takes_103 : decode cX6_takes 103 = .ok (.invokevirtual 95, 3) := by decide +kernel
theorem dX6_takes_106 : decode cX6_takes 106 = .ok (.ireturn, 1) := by decide +kernel
theorem dX6_takes_107 : decode cX6_takes 107 = .ok (.aload_n 0, 1) := by decide +kernel
theorem dX6_takes_108 : decode cX6_takes 108 = .ok (.iload_n 1, 1) := by decide +kernel
theorem dX6_takes_109 : decode cX6_takes 109 = .ok (.invokevirtual 98, 3) := by decide +kernel
theorem dX6_takes_112 : decode cX6_takes 112 = .ok (.ireturn, 1) := by decide +kernel
theorem dX6_endsComparison_0 : decode cX6_endsComparison 0 = .ok (.aload_n 0, 1) := by decide +kernel
theorem dX6_endsComparison_1 : decode cX6_endsComparison 1 = .ok (.getfield 29, 3) := by decide +kernel
theorem dX6_endsComparison_4 : decode cX6_endsComparison 4 = .ok (.iconst 3, 1) := by decide +kernel
theorem dX6_endsComparison_5 : decode cX6_endsComparison 5 = .ok (.if_icmp .eq 18, 3) := by decide +kernel
theorem dX6_endsComparison_8 : decode cX6_endsComparison 8 = .ok (.aload_n 0, 1) := by decide +kernel
theorem dX6_endsComparison_9 : decode cX6_endsComparison 9 = .ok (.getfield 29, 3) := by decide +kernel
theorem dX6_endsComparison_12 : decode cX6_endsComparison 12 = .ok (.iconst 2, 1) := by decide +kernel
theorem dX6_endsComparison_13 : decode cX6_endsComparison 13 = .ok (.if_icmp .ne 14, 3) := by decide +kernel
theorem dX6_endsComparison_16 : decode cX6_endsComparison 16 = .ok (.iload_n 1, 1) := by decide +kernel
theorem dX6_endsComparison_17 : decode cX6_endsComparison 17 = .ok (.invokestatic 83, 3) := by decide +kernel
theorem dX6_endsComparison_20 : decode cX6_endsComparison 20 = .ok (.ifCond .ne 7, 3) := by decide +kernel
theorem dX6_endsComparison_23 : decode cX6_endsComparison 23 = .ok (.iconst 1, 1) := by decide +kernel
theorem dX6_endsComparison_24 : decode cX6_endsComparison 24 = .ok (.goto 4, 3) := by decide +kernel
theorem dX6_endsComparison_27 : decode cX6_endsComparison 27 = .ok (.iconst 0, 1) := by decide +kernel
theorem dX6_endsComparison_28 : decode cX6_endsComparison 28 = .ok (.istore_n 2, 1) := by decide +kernel
theorem dX6_endsComparison_29 : decode cX6_endsComparison 29 = .ok (.iload_n 2, 1) := by decide +kernel
theorem dX6_endsComparison_30 : decode cX6_endsComparison 30 = .ok (.ifCond .eq 27, 3) := by decide +kernel
theorem dX6_endsComparison_33 : decode cX6_endsComparison 33 = .ok (.aload_n 0, 1) := by decide +kernel
theorem dX6_endsComparison_34 : decode cX6_endsComparison 34 = .ok (.getfield 32, 3) := by decide +kernel
theorem dX6_endsComparison_37 : decode cX6_endsComparison 37 = .ok (.iconst 1, 1) := by decide +kernel
theorem dX6_endsComparison_38 : decode cX6_endsComparison 38 = .ok (.if_icmp .ne 19, 3) := by decide +kernel
theorem dX6_endsComparison_41 : decode cX6_endsComparison 41 = .ok (.iload_n 1, 1) := by decide +kernel
theorem dX6_endsComparison_42 : decode cX6_endsComparison 42 = .ok (.bipush 43, 2) := by decide +kernel
theorem dX6_endsComparison_44 : decode cX6_endsComparison 44 = .ok (.if_icmp .eq 13, 3) := by decide +kernel
theorem dX6_endsComparison_47 : decode cX6_endsComparison 47 = .ok (.iload_n 1, 1) := by decide +kernel
theorem dX6_endsComparison_48 : decode cX6_endsComparison 48 = .ok (.bipush 45, 2) := by decide +kernel
theorem dX6_endsComparison_50 : decode cX6_endsComparison 50 = .ok (.if_icmp .eq 7, 3) := by decide +kernel
theorem dX6_endsComparison_53 : decode cX6_endsComparison 53 = .ok (.iconst 1, 1) := by decide +kernel
theorem dX6_endsComparison_54 : decode cX6_endsComparison 54 = .ok (.goto 4, 3) := by decide +kernel
theorem dX6_endsComparison_57 : decode cX6_endsComparison 57 = .ok (.iconst 0, 1) := by decide +kernel
theorem dX6_endsComparison_58 : decode cX6_endsComparison 58 = .ok (.ireturn, 1) := by decide +kernel
theorem dX6_takesFactor_0 : decode cX6_takesFactor 0 = .ok (.iload_n 1, 1) := by decide +kernel
theorem dX6_takesFactor_1 : decode cX6_takesFactor 1 = .ok (.bipush 33, 2) := by decide +kernel
theorem dX6_takesFactor_3 : decode cX6_takesFactor 3 = .ok (.if_icmp .eq 9, 3) := by decide +kernel
theorem dX6_takesFactor_6 : decode cX6_takesFactor 6 = .ok (.iload_n 1, 1) := by decide +kernel
theorem dX6_takesFactor_7 : decode cX6_takesFactor 7 = .ok (.bipush 40, 2) := by decide +kernel
theorem dX6_takesFactor_9 : decode cX6_takesFactor 9 = .ok (.if_icmp .ne 30, 3) := by decide +kernel
theorem dX6_takesFactor_12 : decode cX6_takesFactor 12 = .ok (.aload_n 0, 1) := by decide +kernel
theorem dX6_takesFactor_13 : decode cX6_takesFactor 13 = .ok (.dup, 1) := by decide +kernel
theorem dX6_takesFactor_14 : decode cX6_takesFactor 14 = .ok (.getfield 26, 3) := by decide +kernel
theorem dX6_takesFactor_17 : decode cX6_takesFactor 17 = .ok (.iload_n 1, 1) := by decide +kernel
theorem dX6_takesFactor_18 : decode cX6_takesFactor 18 = .ok (.bipush 40, 2) := by decide +kernel
theorem dX6_takesFactor_20 : decode cX6_takesFactor 20 = .ok (.if_icmp .ne 7, 3) := by decide +kernel
theorem dX6_takesFactor_23 : decode cX6_takesFactor 23 = .ok (.iconst 1, 1) := by decide +kernel
theorem dX6_takesFactor_24 : decode cX6_takesFactor 24 = .ok (.goto 4, 3) := by decide +kernel
theorem dX6_takesFactor_27 : decode cX6_takesFactor 27 = .ok (.iconst 0, 1) := by decide +kernel
theorem dX6_takesFactor_28 : decode cX6_takesFactor 28 = .ok (.iadd, 1) := by decide +kernel
theorem dX6_takesFactor_29 : decode cX6_takesFactor 29 = .ok (.putfield 26, 3) := by decide +kernel
theorem dX6_takesFactor_32 : decode cX6_takesFactor 32 = .ok (.aload_n 0, 1) := by decide +kernel
theorem dX6_takesFactor_33 : decode cX6_takesFactor 33 = .ok (.iload_n 1, 1) := by decide +kernel
theorem dX6_takesFactor_34 : decode cX6_takesFactor 34 = .ok (.invokevirtual 101, 3) := by decide +kernel
theorem dX6_takesFactor_37 : decode cX6_takesFactor 37 = .ok (.iconst 1, 1) := by decide +kernel
theorem dX6_takesFactor_38 : decode cX6_takesFactor 38 = .ok (.ireturn, 1) := by decide +kernel
theorem dX6_takesFactor_39 : decode cX6_takesFactor 39 = .ok (.aload_n 0, 1) := by decide +kernel
theorem dX6_takesFactor_40 : decode cX6_takesFactor 40 = .ok (.iconst 0, 1) := by decide +kernel
theorem dX6_takesFactor_41 : decode cX6_takesFactor 41 = .ok (.putfield 32, 3) := by decide +kernel
theorem dX6_takesFactor_44 : decode cX6_takesFactor 44 = .ok (.aload_n 0, 1) := by decide +kernel
theorem dX6_takesFactor_45 : decode cX6_takesFactor 45 = .ok (.iconst 0, 1) := by decide +kernel
theorem dX6_takesFactor_46 : decode cX6_takesFactor 46 = .ok (.putfield 39, 3) := by decide +kernel
theorem dX6_takesFactor_49 : decode cX6_takesFactor 49 = .ok (.aload_n 0, 1) := by decide +kernel
theorem dX6_takesFactor_50 : decode cX6_takesFactor 50 = .ok (.iload_n 1, 1) := by decide +kernel
theorem dX6_takesFactor_51 : decode cX6_takesFactor 51 = .ok (.invokevirtual 80, 3) := by decide +kernel
theorem dX6_takesFactor_54 : decode cX6_takesFactor 54 = .ok (.ireturn, 1) := by decide +kernel
theorem dX6_takesUnit_0 : decode cX6_takesUnit 0 = .ok (.aload_n 0, 1) := by decide +kernel
theorem dX6_takesUnit_1 : decode cX6_takesUnit 1 = .ok (.getfield 39, 3) := by decide +kernel
theorem dX6_takesUnit_4 : decode cX6_takesUnit 4 = .ok (.aload_n 0, 1) := by decide +kernel
theorem dX6_takesUnit_5 : decode cX6_takesUnit 5 = .ok (.getfield 32, 3) := by decide +kernel
theorem dX6_takesUnit_8 : decode cX6_takesUnit 8 = .ok (.iconst 1, 1) := by decide +kernel
theorem dX6_takesUnit_9 : decode cX6_takesUnit 9 = .ok (.if_icmp .ne 7, 3) := by decide +kernel
theorem dX6_takesUnit_12 : decode cX6_takesUnit 12 = .ok (.iconst 1, 1) := by decide +kernel
theorem dX6_takesUnit_13 : decode cX6_takesUnit 13 = .ok (.goto 4, 3) := by decide +kernel
theorem dX6_takesUnit_16 : decode cX6_takesUnit 16 = .ok (.iconst 0, 1) := by decide +kernel
theorem dX6_takesUnit_17 : decode cX6_takesUnit 17 = .ok (.if_icmp .eq 7, 3) := by decide +kernel
theorem dX6_takesUnit_20 : decode cX6_takesUnit 20 = .ok (.iconst 1, 1) := by decide +kernel
theorem dX6_takesUnit_21 : decode cX6_takesUnit 21 = .ok (.goto 4, 3) := by decide +kernel
theorem dX6_takesUnit_24 : decode cX6_takesUnit 24 = .ok (.iconst 0, 1) := by decide +kernel
theorem dX6_takesUnit_25 : decode cX6_takesUnit 25 = .ok (.istore_n 2, 1) := by decide +kernel
theorem dX6_takesUnit_26 : decode cX6_takesUnit 26 = .ok (.iload_n 1, 1) := by decide +kernel
theorem dX6_takesUnit_27 : decode cX6_takesUnit 27 = .ok (.invokestatic 105, 3) := by decide +kernel
theorem dX6_takesUnit_30 : decode cX6_takesUnit 30 = .ok (.ifCond .eq 30, 3) := by decide +kernel
theorem dX6_takesUnit_33 : decode cX6_takesUnit 33 = .ok (.aload_n 0, 1) := by decide +kernel
theorem dX6_takesUnit_34 : decode cX6_takesUnit 34 = .ok (.getfield 12, 3) := by decide +kernel
theorem dX6_takesUnit_37 : decode cX6_takesUnit 37 = .ok (.iload_n 2, 1) := by decide +kernel
theorem dX6_takesUnit_38 : decode cX6_takesUnit 38 = .ok (.ifCond .eq 7, 3) := by decide +kernel
theorem dX6_takesUnit_41 : decode cX6_takesUnit 41 = .ok (.iconst 3, 1) := by decide +kernel
theorem dX6_takesUnit_42 : decode cX6_takesUnit 42 = .ok (.goto 4, 3) := by decide +kernel
theorem dX6_takesUnit_45 : decode cX6_takesUnit 45 = .ok (.iconst 2, 1) := by decide +kernel
theorem dX6_takesUnit_46 : decode cX6_takesUnit 46 = .ok (.iload_n 1, 1) := by decide +kernel
theorem dX6_takesUnit_47 : decode cX6_takesUnit 47 = .ok (.bipush 97, 2) := by decide +kernel
theorem dX6_takesUnit_49 : decode cX6_takesUnit 49 = .ok (.isub, 1) := by decide +kernel
theorem dX6_takesUnit_50 : decode cX6_takesUnit 50 = .ok (.invokevirtual 108, 3) := by decide +kernel
theorem dX6_takesUnit_53 : decode cX6_takesUnit 53 = .ok (.aload_n 0, 1) := by decide +kernel
theorem dX6_takesUnit_54 : decode cX6_takesUnit 54 = .ok (.iconst 3, 1) := by decide +kernel
theorem dX6_takesUnit_55 : decode cX6_takesUnit 55 = .ok (.putfield 29, 3) := by decide +kernel
theorem dX6_takesUnit_58 : decode cX6_takesUnit 58 = .ok (.iconst 1, 1) := by decide +kernel
theorem dX6_takesUnit_59 : decode cX6_takesUnit 59 = .ok (.ireturn, 1) := by decide +kernel
theorem dX6_takesUnit_60 : decode cX6_takesUnit 60 = .ok (.iload_n 1, 1) := by decide +kernel
theorem dX6_takesUnit_61 : decode cX6_takesUnit 61 = .ok (.invokestatic 83, 3) := by decide +kernel
theorem dX6_takesUnit_64 : decode cX6_takesUnit 64 = .ok (.ifCond .eq 30, 3) := by decide +kernel
theorem dX6_takesUnit_67 : decode cX6_takesUnit 67 = .ok (.aload_n 0, 1) := by decide +kernel
theorem dX6_takesUnit_68 : decode cX6_takesUnit 68 = .ok (.getfield 12, 3) := by decide +kernel
theorem dX6_takesUnit_71 : decode cX6_takesUnit 71 = .ok (.iload_n 2, 1) := by decide +kernel
theorem dX6_takesUnit_72 : decode cX6_takesUnit 72 = .ok (.ifCond .eq 7, 3) := by decide +kernel
theorem dX6_takesUnit_75 : decode cX6_takesUnit 75 = .ok (.iconst 1, 1) := by decide +kernel
theorem dX6_takesUnit_76 : decode cX6_takesUnit 76 = .ok (.goto 4, 3) := by decide +kernel
theorem dX6_takesUnit_79 : decode cX6_takesUnit 79 = .ok (.iconst 0, 1) := by decide +kernel
theorem dX6_takesUnit_80 : decode cX6_takesUnit 80 = .ok (.iload_n 1, 1) := by decide +kernel
theorem dX6_takesUnit_81 : decode cX6_takesUnit 81 = .ok (.bipush 48, 2) := by decide +kernel
theorem dX6_takesUnit_83 : decode cX6_takesUnit 83 = .ok (.isub, 1) := by decide +kernel
theorem dX6_takesUnit_84 : decode cX6_takesUnit 84 = .ok (.invokevirtual 108, 3) := by decide +kernel
theorem dX6_takesUnit_87 : decode cX6_takesUnit 87 = .ok (.aload_n 0, 1) := by decide +kernel
theorem dX6_takesUnit_88 : decode cX6_takesUnit 88 = .ok (.iconst 2, 1) := by decide +kernel
theorem dX6_takesUnit_89 : decode cX6_takesUnit 89 = .ok (.putfield 29, 3) := by decide +kernel
theorem dX6_takesUnit_92 : decode cX6_takesUnit 92 = .ok (.iconst 1, 1) := by decide +kernel
theorem dX6_takesUnit_93 : decode cX6_takesUnit 93 = .ok (.ireturn, 1) := by decide +kernel
theorem dX6_takesUnit_94 : decode cX6_takesUnit 94 = .ok (.iconst 0, 1) := by decide +kernel
theorem dX6_takesUnit_95 : decode cX6_takesUnit 95 = .ok (.ireturn, 1) := by decide +kernel
theorem dX6_takesSecondDigit_0 : decode cX6_takesSecondDigit 0 = .ok (.aload_n 0, 1) := by decide +kernel
theorem dX6_takesSecondDigit_1 : decode cX6_takesSecondDigit 1 = .ok (.getfield 12, 3) := by decide +kernel
theorem dX6_takesSecondDigit_4 : decode cX6_takesSecondDigit 4 = .ok (.iload_n 1, 1) := by decide +kernel
theorem dX6_takesSecondDigit_5 : decode cX6_takesSecondDigit 5 = .ok (.bipush 48, 2) := by decide +kernel
theorem dX6_takesSecondDigit_7 : decode cX6_takesSecondDigit 7 = .ok (.isub, 1) := by decide +kernel
theorem dX6_takesSecondDigit_8 : decode cX6_takesSecondDigit 8 = .ok (.invokevirtual 112, 3) := by decide +kernel
theorem dX6_takesSecondDigit_11 : decode cX6_takesSecondDigit 11 = .ok (.aload_n 0, 1) := by decide +kernel
theorem dX6_takesSecondDigit_12 : decode cX6_takesSecondDigit 12 = .ok (.iconst 3, 1) := by decide +kernel
theorem dX6_takesSecondDigit_13 : decode cX6_takesSecondDigit 13 = .ok (.putfield 29, 3) := by decide +kernel
theorem dX6_takesSecondDigit_16 : decode cX6_takesSecondDigit 16 = .ok (.iconst 1, 1) := by decide +kernel
theorem dX6_takesSecondDigit_17 : decode cX6_takesSecondDigit 17 = .ok (.ireturn, 1) := by decide +kernel
theorem dX6_takesBehindUnit_0 : decode cX6_takesBehindUnit 0 = .ok (.iload_n 1, 1) := by decide +kernel
theorem dX6_takesBehindUnit_1 : decode cX6_takesBehindUnit 1 = .ok (.bipush 43, 2) := by decide +kernel
theorem dX6_takesBehindUnit_3 : decode cX6_takesBehindUnit 3 = .ok (.if_icmp .eq 9, 3) := by decide +kernel
theorem dX6_takesBehindUnit_6 : decode cX6_takesBehindUnit 6 = .ok (.iload_n 1, 1) := by decide +kernel
theorem dX6_takesBehindUnit_7 : decode cX6_takesBehindUnit 7 = .ok (.bipush 45, 2) := by decide +kernel
theorem dX6_takesBehindUnit_9 : decode cX6_takesBehindUnit 9 = .ok (.if_icmp .ne 25, 3) := by decide +kernel
theorem dX6_takesBehindUnit_12 : decode cX6_takesBehindUnit 12 = .ok (.aload_n 0, 1) := by decide +kernel
theorem dX6_takesBehindUnit_13 : decode cX6_takesBehindUnit 13 = .ok (.iload_n 1, 1) := by decide +kernel
theorem dX6_takesBehindUnit_14 : decode cX6_takesBehindUnit 14 = .ok (.bipush 45, 2) := by decide +kernel
theorem dX6_takesBehindUnit_16 : decode cX6_takesBehindUnit 16 = .ok (.if_icmp .ne 7, 3) := by decide +kernel
theorem dX6_takesBehindUnit_19 : decode cX6_takesBehindUnit 19 = .ok (.iconst 1, 1) := by decide +kernel
theorem dX6_takesBehindUnit_20 : decode cX6_takesBehindUnit 20 = .ok (.goto 4, 3) := by decide +kernel
theorem dX6_takesBehindUnit_23 : decode cX6_takesBehindUnit 23 = .ok (.iconst 0, 1) := by decide +kernel
theorem dX6_takesBehindUnit_24 : decode cX6_takesBehindUnit 24 = .ok (.putfield 39, 3) := by decide +kernel
theorem dX6_takesBehindUnit_27 : decode cX6_takesBehindUnit 27 = .ok (.aload_n 0, 1) := by decide +kernel
theorem dX6_takesBehindUnit_28 : decode cX6_takesBehindUnit 28 = .ok (.iconst 1, 1) := by decide +kernel
theorem dX6_takesBehindUnit_29 : decode cX6_takesBehindUnit 29 = .ok (.putfield 29, 3) := by decide +kernel
theorem dX6_takesBehindUnit_32 : decode cX6_takesBehindUnit 32 = .ok (.iconst 1, 1) := by decide +kernel
theorem dX6_takesBehindUnit_33 : decode cX6_takesBehindUnit 33 = .ok (.ireturn, 1) := by decide +kernel
theorem dX6_takesBehindUnit_34 : decode cX6_takesBehindUnit 34 = .ok (.aload_n 0, 1) := by decide +kernel
theorem dX6_takesBehindUnit_35 : decode cX6_takesBehindUnit 35 = .ok (.getfield 32, 3) := by decide +kernel
theorem dX6_takesBehindUnit_38 : decode cX6_takesBehindUnit 38 = .ok (.ifCond .ne 43, 3) := by decide +kernel
theorem dX6_takesBehindUnit_41 : decode cX6_takesBehindUnit 41 = .ok (.iload_n 1, 1) := by decide +kernel
theorem dX6_takesBehindUnit_42 : decode cX6_takesBehindUnit 42 = .ok (.bipush 60, 2) := by decide +kernel
theorem dX6_takesBehindUnit_44 : decode cX6_takesBehindUnit 44 = .ok (.if_icmp .eq 15, 3) := by decide +kernel
theorem dX6_takesBehindUnit_47 : decode cX6_takesBehindUnit 47 = .ok (.iload_n 1, 1) := by decide +kernel
theorem dX6_takesBehindUnit_48 : decode cX6_takesBehindUnit 48 = .ok (.bipush 61, 2) := by decide +kernel
theorem dX6_takesBehindUnit_50 : decode cX6_takesBehindUnit 50 = .ok (.if_icmp .eq 9, 3) := by decide +kernel
theorem dX6_takesBehindUnit_53 : decode cX6_takesBehindUnit 53 = .ok (.iload_n 1, 1) := by decide +kernel
theorem dX6_takesBehindUnit_54 : decode cX6_takesBehindUnit 54 = .ok (.bipush 62, 2) := by decide +kernel
theorem dX6_takesBehindUnit_56 : decode cX6_takesBehindUnit 56 = .ok (.if_icmp .ne 25, 3) := by decide +kernel
theorem dX6_takesBehindUnit_59 : decode cX6_takesBehindUnit 59 = .ok (.aload_n 0, 1) := by decide +kernel
theorem dX6_takesBehindUnit_60 : decode cX6_takesBehindUnit 60 = .ok (.iload_n 1, 1) := by decide +kernel
theorem dX6_takesBehindUnit_61 : decode cX6_takesBehindUnit 61 = .ok (.putfield 35, 3) := by decide +kernel
theorem dX6_takesBehindUnit_64 : decode cX6_takesBehindUnit 64 = .ok (.aload_n 0, 1) := by decide +kernel
theorem dX6_takesBehindUnit_65 : decode cX6_takesBehindUnit 65 = .ok (.iconst 1, 1) := by decide +kernel
theorem dX6_takesBehindUnit_66 : decode cX6_takesBehindUnit 66 = .ok (.putfield 32, 3) := by decide +kernel
theorem dX6_takesBehindUnit_69 : decode cX6_takesBehindUnit 69 = .ok (.aload_n 0, 1) := by decide +kernel
theorem dX6_takesBehindUnit_70 : decode cX6_takesBehindUnit 70 = .ok (.iconst 0, 1) := by decide +kernel
theorem dX6_takesBehindUnit_71 : decode cX6_takesBehindUnit 71 = .ok (.putfield 39, 3) := by decide +kernel
theorem dX6_takesBehindUnit_74 : decode cX6_takesBehindUnit 74 = .ok (.aload_n 0, 1) := by decide +kernel
theorem dX6_takesBehindUnit_75 : decode cX6_takesBehindUnit 75 = .ok (.iconst 1, 1) := by decide +kernel
theorem dX6_takesBehindUnit_76 : decode cX6_takesBehindUnit 76 = .ok (.putfield 29, 3) := by decide +kernel
theorem dX6_takesBehindUnit_79 : decode cX6_takesBehindUnit 79 = .ok (.iconst 1, 1) := by decide +kernel
theorem dX6_takesBehindUnit_80 : decode cX6_takesBehindUnit 80 = .ok (.ireturn, 1) := by decide +kernel
theorem dX6_takesBehindUnit_81 : decode cX6_takesBehindUnit 81 = .ok (.iconst 0, 1) := by decide +kernel
theorem dX6_takesBehindUnit_82 : decode cX6_takesBehindUnit 82 = .ok (.ireturn, 1) := by decide +kernel
theorem dX6_takesBehindFactor_0 : decode cX6_takesBehindFactor 0 = .ok (.iload_n 1, 1) := by decide +kernel
theorem dX6_takesBehindFactor_1 : decode cX6_takesBehindFactor 1 = .ok (.bipush 38, 2) := by decide +kernel
theorem dX6_takesBehindFactor_3 : decode cX6_takesBehindFactor 3 = .ok (.if_icmp .ne 14, 3) := by decide +kernel
theorem dX6_takesBehindFactor_6 : decode cX6_takesBehindFactor 6 = .ok (.aload_n 0, 1) := by decide +kernel
theorem dX6_takesBehindFactor_7 : decode cX6_takesBehindFactor 7 = .ok (.bipush 38, 2) := by decide +kernel
theorem dX6_takesBehindFactor_9 : decode cX6_takesBehindFactor 9 = .ok (.bipush 8, 2) := by decide +kernel
theorem dX6_takesBehindFactor_11 : decode cX6_takesBehindFactor 11 = .ok (.invokevirtual 116, 3) := by decide +kernel
theorem dX6_takesBehindFactor_14 : decode cX6_takesBehindFactor 14 = .ok (.goto 103, 3) := by decide +kernel
theorem dX6_takesBehindFactor_17 : decode cX6_takesBehindFactor 17 = .ok (.iload_n 1, 1) := by decide +kernel
theorem dX6_takesBehindFactor_18 : decode cX6_takesBehindFactor 18 = .ok (.bipush 124, 2) := by decide +kernel
theorem dX6_takesBehindFactor_20 : decode cX6_takesBehindFactor 20 = .ok (.if_icmp .ne 10, 3) := by decide +kernel
theorem dX6_takesBehindFactor_23 : decode cX6_takesBehindFactor 23 = .ok (.aload_n 0, 1) := by decide +kernel
theorem dX6_takesBehindFactor_24 : decode cX6_takesBehindFactor 24 = .ok (.invokevirtual 68, 3) := by decide +kernel
theorem dX6_takesBehindFactor_27 : decode cX6_takesBehindFactor 27 = .ok (.goto 90, 3) := by decide +kernel
theorem dX6_takesBehindFactor_30 : decode cX6_takesBehindFactor 30 = .ok (.iload_n 1, 1) := by decide +kernel
theorem dX6_takesBehindFactor_31 : decode cX6_takesBehindFactor 31 = .ok (.bipush 41, 2) := by decide +kernel
theorem dX6_takesBehindFactor_33 : decode cX6_takesBehindFactor 33 = .ok (.if_icmp .ne 44, 3) := by decide +kernel
theorem dX6_takesBehindFactor_36 : decode cX6_takesBehindFactor 36 = .ok (.aload_n 0, 1) := by decide +kernel
theorem dX6_takesBehindFactor_37 : decode cX6_takesBehindFactor 37 = .ok (.getfield 26, 3) := by decide +kernel
theorem dX6_takesBehindFactor_40 : decode cX6_takesBehindFactor 40 = .ok (.ifCond .le 37, 3) := by decide +kernel
theorem dX6_takesBehindFactor_43 : decode cX6_takesBehindFactor 43 = .ok (.aload_n 0, 1) := by decide +kernel
theorem dX6_takesBehindFactor_44 : decode cX6_takesBehindFactor 44 = .ok (.invokevirtual 68, 3) := by decide +kernel
theorem dX6_takesBehindFactor_47 : decode cX6_takesBehindFactor 47 = .ok (.aload_n 0, 1) := by decide +kernel
theorem dX6_takesBehindFactor_48 : decode cX6_takesBehindFactor 48 = .ok (.dup, 1) := by decide +kernel
theorem dX6_takesBehindFactor_49 : decode cX6_takesBehindFactor 49 = .ok (.getfield 26, 3) := by decide +kernel
theorem dX6_takesBehindFactor_52 : decode cX6_takesBehindFactor 52 = .ok (.iconst 1, 1) := by decide +kernel
theorem dX6_takesBehindFactor_53 : decode cX6_takesBehindFactor 53 = .ok (.isub, 1) := by decide +kernel
theorem dX6_takesBehindFactor_54 : decode cX6_takesBehindFactor 54 = .ok (.putfield 26, 3) := by decide +kernel
theorem dX6_takesBehindFactor_57 : decode cX6_takesBehindFactor 57 = .ok (.aload_n 0, 1) := by decide +kernel
theorem dX6_takesBehindFactor_58 : decode cX6_takesBehindFactor 58 = .ok (.iconst 0, 1) := by decide +kernel
theorem dX6_takesBehindFactor_59 : decode cX6_takesBehindFactor 59 = .ok (.aload_n 0, 1) := by decide +kernel
theorem dX6_takesBehindFactor_60 : decode cX6_takesBehindFactor 60 = .ok (.getfield 22, 3) := by decide +kernel
theorem dX6_takesBehindFactor_63 : decode cX6_takesBehindFactor 63 = .ok (.iconst 1, 1) := by decide +kernel
theorem dX6_takesBehindFactor_64 : decode cX6_takesBehindFactor 64 = .ok (.isub, 1) := by decide +kernel
theorem dX6_takesBehindFactor_65 : decode cX6_takesBehindFactor 65 = .ok (.invokestatic 120, 3) := by decide +kernel
theorem dX6_takesBehindFactor_68 : decode cX6_takesBehindFactor 68 = .ok (.putfield 22, 3) := by decide +kernel
theorem dX6_takesBehindFactor_71 : decode cX6_takesBehindFactor 71 = .ok (.aload_n 0, 1) := by decide +kernel
theorem dX6_takesBehindFactor_72 : decode cX6_takesBehindFactor 72 = .ok (.invokevirtual 126, 3) := by decide +kernel
theorem dX6_takesBehindFactor_75 : decode cX6_takesBehindFactor 75 = .ok (.iconst 1, 1) := by decide +kernel
theorem dX6_takesBehindFactor_76 : decode cX6_takesBehindFactor 76 = .ok (.ireturn, 1) := by decide +kernel
theorem dX6_takesBehindFactor_77 : decode cX6_takesBehindFactor 77 = .ok (.iload_n 1, 1) := by decide +kernel
theorem dX6_takesBehindFactor_78 : decode cX6_takesBehindFactor 78 = .ok (.bipush 58, 2) := by decide +kernel
theorem dX6_takesBehindFactor_80 : decode cX6_takesBehindFactor 80 = .ok (.if_icmp .ne 35, 3) := by decide +kernel
theorem dX6_takesBehindFactor_83 : decode cX6_takesBehindFactor 83 = .ok (.aload_n 0, 1) := by decide +kernel
theorem dX6_takesBehindFactor_84 : decode cX6_takesBehindFactor 84 = .ok (.getfield 43, 3) := by decide +kernel
theorem dX6_takesBehindFactor_87 : decode cX6_takesBehindFactor 87 = .ok (.ifCond .eq 28, 3) := by decide +kernel
theorem dX6_takesBehindFactor_90 : decode cX6_takesBehindFactor 90 = .ok (.aload_n 0, 1) := by decide +kernel
theorem dX6_takesBehindFactor_91 : decode cX6_takesBehindFactor 91 = .ok (.getfield 26, 3) := by decide +kernel
theorem dX6_takesBehindFactor_94 : decode cX6_takesBehindFactor 94 = .ok (.ifCond .ne 21, 3) := by decide +kernel
theorem dX6_takesBehindFactor_97 : decode cX6_takesBehindFactor 97 = .ok (.aload_n 0, 1) := by decide +kernel
theorem dX6_takesBehindFactor_98 : decode cX6_takesBehindFactor 98 = .ok (.invokevirtual 68, 3) := by decide +kernel
theorem dX6_takesBehindFactor_101 : decode cX6_takesBehindFactor 101 = .ok (.aload_n 0, 1) := by decide +kernel
theorem dX6_takesBehindFactor_102 : decode cX6_takesBehindFactor 102 = .ok (.getfield 12, 3) := by decide +kernel
theorem dX6_takesBehindFactor_105 : decode cX6_takesBehindFactor 105 = .ok (.invokevirtual 71, 3) := by decide +kernel
theorem dX6_takesBehindFactor_108 : decode cX6_takesBehindFactor 108 = .ok (.aload_n 0, 1) := by decide +kernel
theorem dX6_takesBehindFactor_109 : decode cX6_takesBehindFactor 109 = .ok (.iconst 5, 1) := by decide +kernel
theorem dX6_takesBehindFactor_110 : decode cX6_takesBehindFactor 110 = .ok (.putfield 29, 3) := by decide +kernel
theorem dX6_takesBehindFactor_113 : decode cX6_takesBehindFactor 113 = .ok (.iconst 1, 1) := by decide +kernel
theorem dX6_takesBehindFactor_114 : decode cX6_takesBehindFactor 114 = .ok (.ireturn, 1) := by decide +kernel
theorem dX6_takesBehindFactor_115 : decode cX6_takesBehindFactor 115 = .ok (.iconst 0, 1) := by decide +kernel
theorem dX6_takesBehindFactor_116 : decode cX6_takesBehindFactor 116 = .ok (.ireturn, 1) := by decide +kernel
theorem dX6_takesBehindFactor_117 : decode cX6_takesBehindFactor 117 = .ok (.aload_n 0, 1) := by decide +kernel
theorem dX6_takesBehindFactor_118 : decode cX6_takesBehindFactor 118 = .ok (.iload_n 1, 1) := by decide +kernel
theorem dX6_takesBehindFactor_119 : decode cX6_takesBehindFactor 119 = .ok (.invokevirtual 101, 3) := by decide +kernel
theorem dX6_takesBehindFactor_122 : decode cX6_takesBehindFactor 122 = .ok (.aload_n 0, 1) := by decide +kernel
theorem dX6_takesBehindFactor_123 : decode cX6_takesBehindFactor 123 = .ok (.iconst 0, 1) := by decide +kernel
theorem dX6_takesBehindFactor_124 : decode cX6_takesBehindFactor 124 = .ok (.putfield 29, 3) := by decide +kernel
theorem dX6_takesBehindFactor_127 : decode cX6_takesBehindFactor 127 = .ok (.iconst 1, 1) := by decide +kernel
theorem dX6_takesBehindFactor_128 : decode cX6_takesBehindFactor 128 = .ok (.ireturn, 1) := by decide +kernel
theorem dX6_takesTarget_0 : decode cX6_takesTarget 0 = .ok (.iload_n 1, 1) := by decide +kernel
theorem dX6_takesTarget_1 : decode cX6_takesTarget 1 = .ok (.invokestatic 105, 3) := by decide +kernel
theorem dX6_takesTarget_4 : decode cX6_takesTarget 4 = .ok (.ifCond .ne 5, 3) := by decide +kernel
theorem dX6_takesTarget_7 : decode cX6_takesTarget 7 = .ok (.iconst 0, 1) := by decide +kernel
theorem dX6_takesTarget_8 : decode cX6_takesTarget 8 = .ok (.ireturn, 1) := by decide +kernel
theorem dX6_takesTarget_9 : decode cX6_takesTarget 9 = .ok (.aload_n 0, 1) := by decide +kernel
theorem dX6_takesTarget_10 : decode cX6_takesTarget 10 = .ok (.getfield 12, 3) := by decide +kernel
theorem dX6_takesTarget_13 : decode cX6_takesTarget 13 = .ok (.iload_n 1, 1) := by decide +kernel
theorem dX6_takesTarget_14 : decode cX6_takesTarget 14 = .ok (.bipush 97, 2) := by decide +kernel
theorem dX6_takesTarget_16 : decode cX6_takesTarget 16 = .ok (.isub, 1) := by decide +kernel
theorem dX6_takesTarget_17 : decode cX6_takesTarget 17 = .ok (.putfield 129, 3) := by decide +kernel
theorem dX6_takesTarget_20 : decode cX6_takesTarget 20 = .ok (.aload_n 0, 1) := by decide +kernel
theorem dX6_takesTarget_21 : decode cX6_takesTarget 21 = .ok (.bipush 6, 2) := by decide +kernel
theorem dX6_takesTarget_23 : decode cX6_takesTarget 23 = .ok (.putfield 29, 3) := by decide +kernel
theorem dX6_takesTarget_26 : decode cX6_takesTarget 26 = .ok (.iconst 1, 1) := by decide +kernel
theorem dX6_takesTarget_27 : decode cX6_takesTarget 27 = .ok (.ireturn, 1) := by decide +kernel
theorem dX6_takesEquals_0 : decode cX6_takesEquals 0 = .ok (.iload_n 1, 1) := by decide +kernel
theorem dX6_takesEquals_1 : decode cX6_takesEquals 1 = .ok (.bipush 61, 2) := by decide +kernel
theorem dX6_takesEquals_3 : decode cX6_takesEquals 3 = .ok (.if_icmp .eq 5, 3) := by decide +kernel
theorem dX6_takesEquals_6 : decode cX6_takesEquals 6 = .ok (.iconst 0, 1) := by decide +kernel
theorem dX6_takesEquals_7 : decode cX6_takesEquals 7 = .ok (.ireturn, 1) := by decide +kernel
theorem dX6_takesEquals_8 : decode cX6_takesEquals 8 = .ok (.aload_n 0, 1) := by decide +kernel
theorem dX6_takesEquals_9 : decode cX6_takesEquals 9 = .ok (.iconst 2, 1) := by decide +kernel
theorem dX6_takesEquals_10 : decode cX6_takesEquals 10 = .ok (.putfield 32, 3) := by decide +kernel
theorem dX6_takesEquals_13 : decode cX6_takesEquals 13 = .ok (.aload_n 0, 1) := by decide +kernel
theorem dX6_takesEquals_14 : decode cX6_takesEquals 14 = .ok (.iconst 0, 1) := by decide +kernel
theorem dX6_takesEquals_15 : decode cX6_takesEquals 15 = .ok (.putfield 39, 3) := by decide +kernel
theorem dX6_takesEquals_18 : decode cX6_takesEquals 18 = .ok (.aload_n 0, 1) := by decide +kernel
theorem dX6_takesEquals_19 : decode cX6_takesEquals 19 = .ok (.iconst 1, 1) := by decide +kernel
theorem dX6_takesEquals_20 : decode cX6_takesEquals 20 = .ok (.putfield 29, 3) := by decide +kernel
theorem dX6_takesEquals_23 : decode cX6_takesEquals 23 = .ok (.iconst 1, 1) := by decide +kernel
theorem dX6_takesEquals_24 : decode cX6_takesEquals 24 = .ok (.ireturn, 1) := by decide +kernel
theorem dX6_closeComparison_0 : decode cX6_closeComparison 0 = .ok (.aload_n 0, 1) := by decide +kernel
theorem dX6_closeComparison_1 : decode cX6_closeComparison 1 = .ok (.getfield 12, 3) := by decide +kernel
theorem dX6_closeComparison_4 : decode cX6_closeComparison 4 = .ok (.aload_n 0, 1) := by decide +kernel
theorem dX6_closeComparison_5 : decode cX6_closeComparison 5 = .ok (.getfield 35, 3) := by decide +kernel
theorem dX6_closeComparison_8 : decode cX6_closeComparison 8 = .ok (.bipush 60, 2) := by decide +kernel
theorem dX6_closeComparison_10 : decode cX6_closeComparison 10 = .ok (.if_icmp .ne 7, 3) := by decide +kernel
theorem dX6_closeComparison_13 : decode cX6_closeComparison 13 = .ok (.iconst 4, 1) := by decide +kernel
theorem dX6_closeComparison_14 : decode cX6_closeComparison 14 = .ok (.goto 18, 3) := by decide +kernel
theorem dX6_closeComparison_17 : decode cX6_closeComparison 17 = .ok (.aload_n 0, 1) := by decide +kernel
theorem dX6_closeComparison_18 : decode cX6_closeComparison 18 = .ok (.getfield 35, 3) := by decide +kernel
theorem dX6_closeComparison_21 : decode cX6_closeComparison 21 = .ok (.bipush 61, 2) := by decide +kernel
theorem dX6_closeComparison_23 : decode cX6_closeComparison 23 = .ok (.if_icmp .ne 7, 3) := by decide +kernel
theorem dX6_closeComparison_26 : decode cX6_closeComparison 26 = .ok (.iconst 5, 1) := by decide +kernel
theorem dX6_closeComparison_27 : decode cX6_closeComparison 27 = .ok (.goto 5, 3) := by decide +kernel
theorem dX6_closeComparison_30 : decode cX6_closeComparison 30 = .ok (.bipush 6, 2) := by decide +kernel
theorem dX6_closeComparison_32 : decode cX6_closeComparison 32 = .ok (.iconst 0, 1) := by decide +kernel
theorem dX6_closeComparison_33 : decode cX6_closeComparison 33 = .ok (.invokevirtual 108, 3) := by decide +kernel
theorem dX6_closeComparison_36 : decode cX6_closeComparison 36 = .ok (.aload_n 0, 1) := by decide +kernel
theorem dX6_closeComparison_37 : decode cX6_closeComparison 37 = .ok (.invokevirtual 126, 3) := by decide +kernel
theorem dX6_closeComparison_40 : decode cX6_closeComparison 40 = .ok (.return_, 1) := by decide +kernel
theorem dX6_closeFactor_0 : decode cX6_closeFactor 0 = .ok (.aload_n 0, 1) := by decide +kernel
theorem dX6_closeFactor_1 : decode cX6_closeFactor 1 = .ok (.getfield 22, 3) := by decide +kernel
theorem dX6_closeFactor_4 : decode cX6_closeFactor 4 = .ok (.ifCond .le 42, 3) := by decide +kernel
theorem dX6_closeFactor_7 : decode cX6_closeFactor 7 = .ok (.aload_n 0, 1) := by decide +kernel
theorem dX6_closeFactor_8 : decode cX6_closeFactor 8 = .ok (.getfield 18, 3) := by decide +kernel
theorem dX6_closeFactor_11 : decode cX6_closeFactor 11 = .ok (.aload_n 0, 1) := by decide +kernel
theorem dX6_closeFactor_12 : decode cX6_closeFactor 12 = .ok (.getfield 22, 3) := by decide +kernel
theorem dX6_closeFactor_15 : decode cX6_closeFactor 15 = .ok (.iconst 1, 1) := by decide +kernel
theorem dX6_closeFactor_16 : decode cX6_closeFactor 16 = .ok (.isub, 1) := by decide +kernel
theorem dX6_closeFactor_17 : decode cX6_closeFactor 17 = .ok (.caload, 1) := by decide +kernel
theorem dX6_closeFactor_18 : decode cX6_closeFactor 18 = .ok (.bipush 33, 2) := by decide +kernel
theorem dX6_closeFactor_20 : decode cX6_closeFactor 20 = .ok (.if_icmp .ne 26, 3) := by decide +kernel
theorem dX6_closeFactor_23 : decode cX6_closeFactor 23 = .ok (.aload_n 0, 1) := by decide +kernel
theorem dX6_closeFactor_24 : decode cX6_closeFactor 24 = .ok (.dup, 1) := by decide +kernel
theorem dX6_closeFactor_25 : decode cX6_closeFactor 25 = .ok (.getfield 22, 3) := by decide +kernel
theorem dX6_closeFactor_28 : decode cX6_closeFactor 28 = .ok (.iconst 1, 1) := by decide +kernel
theorem dX6_closeFactor_29 : decode cX6_closeFactor 29 = .ok (.isub, 1) := by decide +kernel
theorem dX6_closeFactor_30 : decode cX6_closeFactor 30 = .ok (.putfield 22, 3) := by decide +kernel
theorem dX6_closeFactor_33 : decode cX6_closeFactor 33 = .ok (.aload_n 0, 1) := by decide +kernel
theorem dX6_closeFactor_34 : decode cX6_closeFactor 34 = .ok (.getfield 12, 3) := by decide +kernel
theorem dX6_closeFactor_37 : decode cX6_closeFactor 37 = .ok (.bipush 7, 2) := by decide +kernel
theorem dX6_closeFactor_39 : decode cX6_closeFactor 39 = .ok (.iconst 0, 1) := by decide +kernel
theorem dX6_closeFactor_40 : decode cX6_closeFactor 40 = .ok (.invokevirtual 108, 3) := by decide +kernel
theorem dX6_closeFactor_43 : decode cX6_closeFactor 43 = .ok (.goto (-43), 3) := by decide +kernel
theorem dX6_closeFactor_46 : decode cX6_closeFactor 46 = .ok (.aload_n 0, 1) := by decide +kernel
theorem dX6_closeFactor_47 : decode cX6_closeFactor 47 = .ok (.iconst 4, 1) := by decide +kernel
theorem dX6_closeFactor_48 : decode cX6_closeFactor 48 = .ok (.putfield 29, 3) := by decide +kernel
theorem dX6_closeFactor_51 : decode cX6_closeFactor 51 = .ok (.return_, 1) := by decide +kernel
theorem dX6_closeTerms_0 : decode cX6_closeTerms 0 = .ok (.aload_n 0, 1) := by decide +kernel
theorem dX6_closeTerms_1 : decode cX6_closeTerms 1 = .ok (.bipush 38, 2) := by decide +kernel
theorem dX6_closeTerms_3 : decode cX6_closeTerms 3 = .ok (.bipush 8, 2) := by decide +kernel
theorem dX6_closeTerms_5 : decode cX6_closeTerms 5 = .ok (.invokevirtual 116, 3) := by decide +kernel
theorem dX6_closeTerms_8 : decode cX6_closeTerms 8 = .ok (.aload_n 0, 1) := by decide +kernel
theorem dX6_closeTerms_9 : decode cX6_closeTerms 9 = .ok (.bipush 124, 2) := by decide +kernel
theorem dX6_closeTerms_11 : decode cX6_closeTerms 11 = .ok (.bipush 9, 2) := by decide +kernel
theorem dX6_closeTerms_13 : decode cX6_closeTerms 13 = .ok (.invokevirtual 116, 3) := by decide +kernel
theorem dX6_closeTerms_16 : decode cX6_closeTerms 16 = .ok (.return_, 1) := by decide +kernel
theorem dX6_release_0 : decode cX6_release 0 = .ok (.aload_n 0, 1) := by decide +kernel
theorem dX6_release_1 : decode cX6_release 1 = .ok (.getfield 22, 3) := by decide +kernel
theorem dX6_release_4 : decode cX6_release 4 = .ok (.ifCond .le 37, 3) := by decide +kernel
theorem dX6_release_7 : decode cX6_release 7 = .ok (.aload_n 0, 1) := by decide +kernel
theorem dX6_release_8 : decode cX6_release 8 = .ok (.getfield 18, 3) := by decide +kernel
theorem dX6_release_11 : decode cX6_release 11 = .ok (.aload_n 0, 1) := by decide +kernel
theorem dX6_release_12 : decode cX6_release 12 = .ok (.getfield 22, 3) := by decide +kernel
theorem dX6_release_15 : decode cX6_release 15 = .ok (.iconst 1, 1) := by decide +kernel
theorem dX6_release_16 : decode cX6_release 16 = .ok (.isub, 1) := by decide +kernel
theorem dX6_release_17 : decode cX6_release 17 = .ok (.caload, 1) := by decide +kernel
theorem dX6_release_18 : decode cX6_release 18 = .ok (.iload_n 1, 1) := by decide +kernel
theorem dX6_release_19 : decode cX6_release 19 = .ok (.if_icmp .ne 22, 3) := by decide +kernel
theorem dX6_release_22 : decode cX6_release 22 = .ok (.aload_n 0, 1) := by decide +kernel
theorem dX6_release_23 : decode cX6_release 23 = .ok (.dup, 1) := by decide +kernel
theorem dX6_release_24 : decode cX6_release 24 = .ok (.getfield 22, 3) := by decide +kernel
theorem dX6_release_27 : decode cX6_release 27 = .ok (.iconst 1, 1) := by decide +kernel
theorem dX6_release_28 : decode cX6_release 28 = .ok (.isub, 1) := by decide +kernel
theorem dX6_release_29 : decode cX6_release 29 = .ok (.putfield 22, 3) := by decide +kernel
theorem dX6_release_32 : decode cX6_release 32 = .ok (.aload_n 0, 1) := by decide +kernel
theorem dX6_release_33 : decode cX6_release 33 = .ok (.getfield 12, 3) := by decide +kernel
theorem dX6_release_36 : decode cX6_release 36 = .ok (.iload_n 2, 1) := by decide +kernel
theorem dX6_release_37 : decode cX6_release 37 = .ok (.iconst 0, 1) := by decide +kernel
theorem dX6_release_38 : decode cX6_release 38 = .ok (.invokevirtual 108, 3) := by decide +kernel
theorem dX6_release_41 : decode cX6_release 41 = .ok (.return_, 1) := by decide +kernel
theorem dX6_keep_0 : decode cX6_keep 0 = .ok (.aload_n 0, 1) := by decide +kernel
theorem dX6_keep_1 : decode cX6_keep 1 = .ok (.getfield 22, 3) := by decide +kernel
theorem dX6_keep_4 : decode cX6_keep 4 = .ok (.bipush 60, 2) := by decide +kernel
theorem dX6_keep_6 : decode cX6_keep 6 = .ok (.if_icmp .ge 23, 3) := by decide +kernel
theorem dX6_keep_9 : decode cX6_keep 9 = .ok (.aload_n 0, 1) := by decide +kernel
theorem dX6_keep_10 : decode cX6_keep 10 = .ok (.getfield 18, 3) := by decide +kernel
theorem dX6_keep_13 : decode cX6_keep 13 = .ok (.aload_n 0, 1) := by decide +kernel
theorem dX6_keep_14 : decode cX6_keep 14 = .ok (.getfield 22, 3) := by decide +kernel
theorem dX6_keep_17 : decode cX6_keep 17 = .ok (.iload_n 1, 1) := by decide +kernel
theorem dX6_keep_18 : decode cX6_keep 18 = .ok (.castore, 1) := by decide +kernel
theorem dX6_keep_19 : decode cX6_keep 19 = .ok (.aload_n 0, 1) := by decide +kernel
theorem dX6_keep_20 : decode cX6_keep 20 = .ok (.dup, 1) := by decide +kernel
theorem dX6_keep_21 : decode cX6_keep 21 = .ok (.getfield 22, 3) := by decide +kernel
theorem dX6_keep_24 : decode cX6_keep 24 = .ok (.iconst 1, 1) := by decide +kernel
theorem dX6_keep_25 : decode cX6_keep 25 = .ok (.iadd, 1) := by decide +kernel
theorem dX6_keep_26 : decode cX6_keep 26 = .ok (.putfield 22, 3) := by decide +kernel
theorem dX6_keep_29 : decode cX6_keep 29 = .ok (.return_, 1) := by decide +kernel
theorem dX6_isLetter_0 : decode cX6_isLetter 0 = .ok (.iload_n 0, 1) := by decide +kernel
theorem dX6_isLetter_1 : decode cX6_isLetter 1 = .ok (.bipush 97, 2) := by decide +kernel
theorem dX6_isLetter_3 : decode cX6_isLetter 3 = .ok (.if_icmp .lt 13, 3) := by decide +kernel
theorem dX6_isLetter_6 : decode cX6_isLetter 6 = .ok (.iload_n 0, 1) := by decide +kernel
theorem dX6_isLetter_7 : decode cX6_isLetter 7 = .ok (.bipush 104, 2) := by decide +kernel
theorem dX6_isLetter_9 : decode cX6_isLetter 9 = .ok (.if_icmp .gt 7, 3) := by decide +kernel
theorem dX6_isLetter_12 : decode cX6_isLetter 12 = .ok (.iconst 1, 1) := by decide +kernel
theorem dX6_isLetter_13 : decode cX6_isLetter 13 = .ok (.goto 4, 3) := by decide +kernel
theorem dX6_isLetter_16 : decode cX6_isLetter 16 = .ok (.iconst 0, 1) := by decide +kernel
theorem dX6_isLetter_17 : decode cX6_isLetter 17 = .ok (.ireturn, 1) := by decide +kernel
theorem dX6_isDigit_0 : decode cX6_isDigit 0 = .ok (.iload_n 0, 1) := by decide +kernel
theorem dX6_isDigit_1 : decode cX6_isDigit 1 = .ok (.bipush 48, 2) := by decide +kernel
theorem dX6_isDigit_3 : decode cX6_isDigit 3 = .ok (.if_icmp .lt 13, 3) := by decide +kernel
theorem dX6_isDigit_6 : decode cX6_isDigit 6 = .ok (.iload_n 0, 1) := by decide +kernel
theorem dX6_isDigit_7 : decode cX6_isDigit 7 = .ok (.bipush 57, 2) := by decide +kernel
theorem dX6_isDigit_9 : decode cX6_isDigit 9 = .ok (.if_icmp .gt 7, 3) := by decide +kernel
theorem dX6_isDigit_12 : decode cX6_isDigit 12 = .ok (.iconst 1, 1) := by decide +kernel
theorem dX6_isDigit_13 : decode cX6_isDigit 13 = .ok (.goto 4, 3) := by decide +kernel
theorem dX6_isDigit_16 : decode cX6_isDigit 16 = .ok (.iconst 0, 1) := by decide +kernel
theorem dX6_isDigit_17 : decode cX6_isDigit 17 = .ok (.ireturn, 1) := by decide +kernel
theorem dX7_init_0 : decode cX7_init 0 = .ok (.aload_n 0, 1) := by decide +kernel
theorem dX7_init_1 : decode cX7_init 1 = .ok (.invokespecial 3, 3) := by decide +kernel
theorem dX7_init_4 : decode cX7_init 4 = .ok (.aload_n 0, 1) := by decide +kernel
theorem dX7_init_5 : decode cX7_init 5 = .ok (.bipush 6, 2) := by decide +kernel
theorem dX7_init_7 : decode cX7_init 7 = .ok (.anewarray 9, 3) := by decide +kernel
theorem dX7_init_10 : decode cX7_init 10 = .ok (.putfield 11, 3) := by decide +kernel
theorem dX7_init_13 : decode cX7_init 13 = .ok (.aload_n 0, 1) := by decide +kernel
theorem dX7_init_14 : decode cX7_init 14 = .ok (.iconst 0, 1) := by decide +kernel
theorem dX7_init_15 : decode cX7_init 15 = .ok (.putfield 17, 3) := by decide +kernel
theorem dX7_init_18 : decode cX7_init 18 = .ok (.aload_n 0, 1) := by decide +kernel
theorem dX7_init_19 : decode cX7_init 19 = .ok (.iconst 0, 1) := by decide +kernel
theorem dX7_init_20 : decode cX7_init 20 = .ok (.putfield 21, 3) := by decide +kernel
theorem dX7_init_23 : decode cX7_init 23 = .ok (.aload_n 0, 1) := by decide +kernel
theorem dX7_init_24 : decode cX7_init 24 = .ok (.bipush 8, 2) := by decide +kernel
theorem dX7_init_26 : decode cX7_init 26 = .ok (.newarray .int, 2) := by decide +kernel
theorem dX7_init_28 : decode cX7_init 28 = .ok (.putfield 24, 3) := by decide +kernel
theorem dX7_init_31 : decode cX7_init 31 = .ok (.iconst 0, 1) := by decide +kernel
theorem dX7_init_32 : decode cX7_init 32 = .ok (.istore_n 1, 1) := by decide +kernel
theorem dX7_init_33 : decode cX7_init 33 = .ok (.iload_n 1, 1) := by decide +kernel
theorem dX7_init_34 : decode cX7_init 34 = .ok (.bipush 6, 2) := by decide +kernel
theorem dX7_init_36 : decode cX7_init 36 = .ok (.if_icmp .ge 22, 3) := by decide +kernel
theorem dX7_init_39 : decode cX7_init 39 = .ok (.aload_n 0, 1) := by decide +kernel
theorem dX7_init_40 : decode cX7_init 40 = .ok (.getfield 11, 3) := by decide +kernel
theorem dX7_init_43 : decode cX7_init 43 = .ok (.iload_n 1, 1) := by decide +kernel
theorem dX7_init_44 : decode cX7_init 44 = .ok (.new 9, 3) := by decide +kernel
theorem dX7_init_47 : decode cX7_init 47 = .ok (.dup, 1) := by decide +kernel
theorem dX7_init_48 : decode cX7_init 48 = .ok (.invokespecial 28, 3) := by decide +kernel
theorem dX7_init_51 : decode cX7_init 51 = .ok (.aastore, 1) := by decide +kernel
theorem dX7_init_52 : decode cX7_init 52 = .ok (.iinc 1 1, 3) := by decide +kernel
theorem dX7_init_55 : decode cX7_init 55 = .ok (.goto (-22), 3) := by decide +kernel
theorem dX7_init_58 : decode cX7_init 58 = .ok (.return_, 1) := by decide +kernel
theorem dX7_has_0 : decode cX7_has 0 = .ok (.iload_n 1, 1) := by decide +kernel
theorem dX7_has_1 : decode cX7_has 1 = .ok (.ifCond .lt 15, 3) := by decide +kernel
theorem dX7_has_4 : decode cX7_has 4 = .ok (.iload_n 1, 1) := by decide +kernel
theorem dX7_has_5 : decode cX7_has 5 = .ok (.aload_n 0, 1) := by decide +kernel
theorem dX7_has_6 : decode cX7_has 6 = .ok (.getfield 17, 3) := by decide +kernel
theorem dX7_has_9 : decode cX7_has 9 = .ok (.if_icmp .ge 7, 3) := by decide +kernel
theorem dX7_has_12 : decode cX7_has 12 = .ok (.iconst 1, 1) := by decide +kernel
theorem dX7_has_13 : decode cX7_has 13 = .ok (.goto 4, 3) := by decide +kernel
theorem dX7_has_16 : decode cX7_has 16 = .ok (.iconst 0, 1) := by decide +kernel
theorem dX7_has_17 : decode cX7_has 17 = .ok (.ireturn, 1) := by decide +kernel
theorem dX7_failingIn_0 : decode cX7_failingIn 0 = .ok (.lload_n 1, 1) := by decide +kernel
theorem dX7_failingIn_1 : decode cX7_failingIn 1 = .ok (.aload_n 0, 1) := by decide +kernel
theorem dX7_failingIn_2 : decode cX7_failingIn 2 = .ok (.getfield 24, 3) := by decide +kernel
theorem dX7_failingIn_5 : decode cX7_failingIn 5 = .ok (.invokestatic 29, 3) := by decide +kernel
theorem dX7_failingIn_8 : decode cX7_failingIn 8 = .ok (.iconst 0, 1) := by decide +kernel
theorem dX7_failingIn_9 : decode cX7_failingIn 9 = .ok (.istore_n 3, 1) := by decide +kernel
theorem dX7_failingIn_10 : decode cX7_failingIn 10 = .ok (.iconst 0, 1) := by decide +kernel
theorem dX7_failingIn_11 : decode cX7_failingIn 11 = .ok (.istore 4, 2) := by decide +kernel
theorem dX7_failingIn_13 : decode cX7_failingIn 13 = .ok (.iload 4, 2) := by decide +kernel
theorem dX7_failingIn_15 : decode cX7_failingIn 15 = .ok (.aload_n 0, 1) := by decide +kernel
theorem dX7_failingIn_16 : decode cX7_failingIn 16 = .ok (.getfield 17, 3) := by decide +kernel
theorem dX7_failingIn_19 : decode cX7_failingIn 19 = .ok (.if_icmp .ge 37, 3) := by decide +kernel
theorem dX7_failingIn_22 : decode cX7_failingIn 22 = .ok (.iload_n 3, 1) := by decide +kernel
theorem dX7_failingIn_23 : decode cX7_failingIn 23 = .ok (.aload_n 0, 1) := by decide +kernel
theorem dX7_failingIn_24 : decode cX7_failingIn 24 = .ok (.getfield 11, 3) := by decide +kernel
theorem dX7_failingIn_27 : decode cX7_failingIn 27 = .ok (.iload 4, 2) := by decide +kernel
theorem dX7_failingIn_29 : decode cX7_failingIn 29 = .ok (.aaload, 1) := by decide +kernel
theorem dX7_failingIn_30 : decode cX7_failingIn 30 = .ok (.aload_n 0, 1) := by decide +kernel
theorem dX7_failingIn_31 : decode cX7_failingIn 31 = .ok (.getfield 24, 3) := by decide +kernel
theorem dX7_failingIn_34 : decode cX7_failingIn 34 = .ok (.invokevirtual 33, 3) := by decide +kernel
theorem dX7_failingIn_37 : decode cX7_failingIn 37 = .ok (.ifCond .eq 7, 3) := by decide +kernel
theorem dX7_failingIn_40 : decode cX7_failingIn 40 = .ok (.iconst 0, 1) := by decide +kernel
theorem dX7_failingIn_41 : decode cX7_failingIn 41 = .ok (.goto 7, 3) := by decide +kernel
theorem dX7_failingIn_44 : decode cX7_failingIn 44 = .ok (.iconst 1, 1) := by decide +kernel
theorem dX7_failingIn_45 : decode cX7_failingIn 45 = .ok (.iload 4, 2) := by decide +kernel
theorem dX7_failingIn_47 : decode cX7_failingIn 47 = .ok (.ishl, 1) := by decide +kernel
theorem dX7_failingIn_48 : decode cX7_failingIn 48 = .ok (.ior, 1) := by decide +kernel
theorem dX7_failingIn_49 : decode cX7_failingIn 49 = .ok (.istore_n 3, 1) := by decide +kernel
theorem dX7_failingIn_50 : decode cX7_failingIn 50 = .ok (.iinc 4 1, 3) := by decide +kernel
theorem dX7_failingIn_53 : decode cX7_failingIn 53 = .ok (.goto (-40), 3) := by decide +kernel
theorem dX7_failingIn_56 : decode cX7_failingIn 56 = .ok (.iload_n 3, 1) := by decide +kernel
theorem dX7_failingIn_57 : decode cX7_failingIn 57 = .ok (.ireturn, 1) := by decide +kernel
theorem dX8_init_0 : decode cX8_init 0 = .ok (.aload_n 0, 1) := by decide +kernel
theorem dX8_init_1 : decode cX8_init 1 = .ok (.invokespecial 3, 3) := by decide +kernel
theorem dX8_init_4 : decode cX8_init 4 = .ok (.aload_n 0, 1) := by decide +kernel
theorem dX8_init_5 : decode cX8_init 5 = .ok (.bipush 60, 2) := by decide +kernel
theorem dX8_init_7 : decode cX8_init 7 = .ok (.newarray .int, 2) := by decide +kernel
theorem dX8_init_9 : decode cX8_init 9 = .ok (.putfield 9, 3) := by decide +kernel
theorem dX8_init_12 : decode cX8_init 12 = .ok (.aload_n 0, 1) := by decide +kernel
theorem dX8_init_13 : decode cX8_init 13 = .ok (.iconst 0, 1) := by decide +kernel
theorem dX8_init_14 : decode cX8_init 14 = .ok (.putfield 15, 3) := by decide +kernel
theorem dX8_init_17 : decode cX8_init 17 = .ok (.aload_n 0, 1) := by decide +kernel
theorem dX8_init_18 : decode cX8_init 18 = .ok (.iconst 0, 1) := by decide +kernel
theorem dX8_init_19 : decode cX8_init 19 = .ok (.putfield 19, 3) := by decide +kernel
theorem dX8_init_22 : decode cX8_init 22 = .ok (.aload_n 0, 1) := by decide +kernel
theorem dX8_init_23 : decode cX8_init 23 = .ok (.iconst 0, 1) := by decide +kernel
theorem dX8_init_24 : decode cX8_init 24 = .ok (.putfield 22, 3) := by decide +kernel
theorem dX8_init_27 : decode cX8_init 27 = .ok (.return_, 1) := by decide +kernel
theorem dX8_clear_0 : decode cX8_clear 0 = .ok (.aload_n 0, 1) := by decide +kernel
theorem dX8_clear_1 : decode cX8_clear 1 = .ok (.iconst 0, 1) := by decide +kernel
theorem dX8_clear_2 : decode cX8_clear 2 = .ok (.putfield 15, 3) := by decide +kernel
theorem dX8_clear_5 : decode cX8_clear 5 = .ok (.aload_n 0, 1) := by decide +kernel
theorem dX8_clear_6 : decode cX8_clear 6 = .ok (.iconst 0, 1) := by decide +kernel
theorem dX8_clear_7 : decode cX8_clear 7 = .ok (.putfield 19, 3) := by decide +kernel
theorem dX8_clear_10 : decode cX8_clear 10 = .ok (.aload_n 0, 1) := by decide +kernel
theorem dX8_clear_11 : decode cX8_clear 11 = .ok (.iconst 0, 1) := by decide +kernel
theorem dX8_clear_12 : decode cX8_clear 12 = .ok (.putfield 22, 3) := by decide +kernel
theorem dX8_clear_15 : decode cX8_clear 15 = .ok (.return_, 1) := by decide +kernel
theorem dX8_emit_0 : decode cX8_emit 0 = .ok (.aload_n 0, 1) := by decide +kernel
theorem dX8_emit_1 : decode cX8_emit 1 = .ok (.getfield 15, 3) := by decide +kernel
theorem dX8_emit_4 : decode cX8_emit 4 = .ok (.bipush 60, 2) := by decide +kernel
theorem dX8_emit_6 : decode cX8_emit 6 = .ok (.if_icmp .ge 28, 3) := by decide +kernel
theorem dX8_emit_9 : decode cX8_emit 9 = .ok (.aload_n 0, 1) := by decide +kernel
theorem dX8_emit_10 : decode cX8_emit 10 = .ok (.getfield 9, 3) := by decide +kernel
theorem dX8_emit_13 : decode cX8_emit 13 = .ok (.aload_n 0, 1) := by decide +kernel
theorem dX8_emit_14 : decode cX8_emit 14 = .ok (.getfield 15, 3) := by decide +kernel
theorem dX8_emit_17 : decode cX8_emit 17 = .ok (.iload_n 1, 1) := by decide +kernel
theorem dX8_emit_18 : decode cX8_emit 18 = .ok (.bipush 8, 2) := by decide +kernel
theorem dX8_emit_20 : decode cX8_emit 20 = .ok (.ishl, 1) := by decide +kernel
theorem dX8_emit_21 : decode cX8_emit 21 = .ok (.iload_n 2, 1) := by decide +kernel
theorem dX8_emit_22 : decode cX8_emit 22 = .ok (.ior, 1) := by decide +kernel
theorem dX8_emit_23 : decode cX8_emit 23 = .ok (.iastore, 1) := by decide +kernel
theorem dX8_emit_24 : decode cX8_emit 24 = .ok (.aload_n 0, 1) := by decide +kernel
theorem dX8_emit_25 : decode cX8_emit 25 = .ok (.dup, 1) := by decide +kernel
theorem dX8_emit_26 : decode cX8_emit 26 = .ok (.getfield 15, 3) := by decide +kernel
theorem dX8_emit_29 : decode cX8_emit 29 = .ok (.iconst 1, 1) := by decide +kernel
theorem dX8_emit_30 : decode cX8_emit 30 = .ok (.iadd, 1) := by decide +kernel
theorem dX8_emit_31 : decode cX8_emit 31 = .ok (.putfield 15, 3) := by decide +kernel
theorem dX8_emit_34 : decode cX8_emit 34 = .ok (.return_, 1) := by decide +kernel
theorem dX8_widen_0 : decode cX8_widen 0 = .ok (.aload_n 0, 1) := by decide +kernel
theorem dX8_widen_1 : decode cX8_widen 1 = .ok (.getfield 15, 3) := by decide +kernel
theorem dX8_widen_4 : decode cX8_widen 4 = .ok (.ifCond .le 37, 3) := by decide +kernel
theorem dX8_widen_7 : decode cX8_widen 7 = .ok (.aload_n 0, 1) := by decide +kernel
theorem dX8_widen_8 : decode cX8_widen 8 = .ok (.getfield 9, 3) := by decide +kernel
theorem dX8_widen_11 : decode cX8_widen 11 = .ok (.aload_n 0, 1) := by decide +kernel
theorem dX8_widen_12 : decode cX8_widen 12 = .ok (.getfield 15, 3) := by decide +kernel
theorem dX8_widen_15 : decode cX8_widen 15 = .ok (.iconst 1, 1) := by decide +kernel
theorem dX8_widen_16 : decode cX8_widen 16 = .ok (.isub, 1) := by decide +kernel
theorem dX8_widen_17 : decode cX8_widen 17 = .ok (.dup2, 1) := by decide +kernel
theorem dX8_widen_18 : decode cX8_widen 18 = .ok (.iaload, 1) := by decide +kernel
theorem dX8_widen_19 : decode cX8_widen 19 = .ok (.bipush 9, 2) := by decide +kernel
theorem dX8_widen_21 : decode cX8_widen 21 = .ok (.aload_n 0, 1) := by decide +kernel
theorem dX8_widen_22 : decode cX8_widen 22 = .ok (.getfield 9, 3) := by decide +kernel
theorem dX8_widen_25 : decode cX8_widen 25 = .ok (.aload_n 0, 1) := by decide +kernel
theorem dX8_widen_26 : decode cX8_widen 26 = .ok (.getfield 15, 3) := by decide +kernel
theorem dX8_widen_29 : decode cX8_widen 29 = .ok (.iconst 1, 1) := by decide +kernel
theorem dX8_widen_30 : decode cX8_widen 30 = .ok (.isub, 1) := by decide +kernel
theorem dX8_widen_31 : decode cX8_widen 31 = .ok (.iaload, 1) := by decide +kernel
theorem dX8_widen_32 : decode cX8_widen 32 = .ok (.sipush 255, 3) := by decide +kernel
theorem dX8_widen_35 : decode cX8_widen 35 = .ok (.iand, 1) := by decide +kernel
theorem dX8_widen_36 : decode cX8_widen 36 = .ok (.imul, 1) := by decide +kernel
theorem dX8_widen_37 : decode cX8_widen 37 = .ok (.iload_n 1, 1) := by decide +kernel
theorem dX8_widen_38 : decode cX8_widen 38 = .ok (.iadd, 1) := by decide +kernel
theorem dX8_widen_39 : decode cX8_widen 39 = .ok (.iadd, 1) := by decide +kernel
theorem dX8_widen_40 : decode cX8_widen 40 = .ok (.iastore, 1) := by decide +kernel
theorem dX8_widen_41 : decode cX8_widen 41 = .ok (.return_, 1) := by decide +kernel
theorem dX8_endRule_0 : decode cX8_endRule 0 = .ok (.aload_n 0, 1) := by decide +kernel
theorem dX8_endRule_1 : decode cX8_endRule 1 = .ok (.aload_n 0, 1) := by decide +kernel
theorem dX8_endRule_2 : decode cX8_endRule 2 = .ok (.getfield 15, 3) := by decide +kernel
theorem dX8_endRule_5 : decode cX8_endRule 5 = .ok (.putfield 19, 3) := by decide +kernel
theorem dX8_endRule_8 : decode cX8_endRule 8 = .ok (.return_, 1) := by decide +kernel
theorem dX8_copy_0 : decode cX8_copy 0 = .ok (.aload_n 1, 1) := by decide +kernel
theorem dX8_copy_1 : decode cX8_copy 1 = .ok (.getfield 9, 3) := by decide +kernel
theorem dX8_copy_4 : decode cX8_copy 4 = .ok (.iconst 0, 1) := by decide +kernel
theorem dX8_copy_5 : decode cX8_copy 5 = .ok (.aload_n 0, 1) := by decide +kernel
theorem dX8_copy_6 : decode cX8_copy 6 = .ok (.getfield 9, 3) := by decide +kernel
theorem dX8_copy_9 : decode cX8_copy 9 = .ok (.iconst 0, 1) := by decide +kernel
theorem dX8_copy_10 : decode cX8_copy 10 = .ok (.bipush 60, 2) := by decide +kernel
theorem dX8_copy_12 : decode cX8_copy 12 = .ok (.invokestatic 25, 3) := by decide +kernel
theorem dX8_copy_15 : decode cX8_copy 15 = .ok (.aload_n 0, 1) := by decide +kernel
theorem dX8_copy_16 : decode cX8_copy 16 = .ok (.aload_n 1, 1) := by decide +kernel
theorem dX8_copy_17 : decode cX8_copy 17 = .ok (.getfield 15, 3) := by decide +kernel
theorem dX8_copy_20 : decode cX8_copy 20 = .ok (.putfield 15, 3) := by decide +kernel
theorem dX8_copy_23 : decode cX8_copy 23 = .ok (.aload_n 0, 1) := by decide +kernel
theorem dX8_copy_24 : decode cX8_copy 24 = .ok (.aload_n 1, 1) := by decide +kernel
theorem dX8_copy_25 : decode cX8_copy 25 = .ok (.getfield 19, 3) := by decide +kernel
theorem dX8_copy_28 : decode cX8_copy 28 = .ok (.putfield 19, 3) := by decide +kernel
theorem dX8_copy_31 : decode cX8_copy 31 = .ok (.aload_n 0, 1) := by decide +kernel
theorem dX8_copy_32 : decode cX8_copy 32 = .ok (.aload_n 1, 1) := by decide +kernel
theorem dX8_copy_33 : decode cX8_copy 33 = .ok (.getfield 22, 3) := by decide +kernel
theorem dX8_copy_36 : decode cX8_copy 36 = .ok (.putfield 22, 3) := by decide +kernel
theorem dX8_copy_39 : decode cX8_copy 39 = .ok (.return_, 1) := by decide +kernel
theorem dX8_isTrue_0 : decode cX8_isTrue 0 = .ok (.lconst 0, 1) := by decide +kernel
theorem dX8_isTrue_1 : decode cX8_isTrue 1 = .ok (.lstore_n 2, 1) := by decide +kernel
theorem dX8_isTrue_2 : decode cX8_isTrue 2 = .ok (.iconst 0, 1) := by decide +kernel
theorem dX8_isTrue_3 : decode cX8_isTrue 3 = .ok (.istore 4, 2) := by decide +kernel
theorem dX8_isTrue_5 : decode cX8_isTrue 5 = .ok (.iconst 0, 1) := by decide +kernel
theorem dX8_isTrue_6 : decode cX8_isTrue 6 = .ok (.istore 5, 2) := by decide +kernel
theorem dX8_isTrue_8 : decode cX8_isTrue 8 = .ok (.iload 5, 2) := by decide +kernel
theorem dX8_isTrue_10 : decode cX8_isTrue 10 = .ok (.aload_n 0, 1) := by decide +kernel
theorem dX8_isTrue_11 : decode cX8_isTrue 11 = .ok (.getfield 19, 3) := by decide +kernel
theorem dX8_isTrue_14 : decode cX8_isTrue 14 = .ok (.if_icmp .ge 204, 3) := by decide +kernel
theorem dX8_isTrue_17 : decode cX8_isTrue 17 = .ok (.aload_n 0, 1) := by decide +kernel
theorem dX8_isTrue_18 : decode cX8_isTrue 18 = .ok (.getfield 9, 3) := by decide +kernel
theorem dX8_isTrue_21 : decode cX8_isTrue 21 = .ok (.iload 5, 2) := by decide +kernel
theorem dX8_isTrue_23 : decode cX8_isTrue 23 = .ok (.iaload, 1) := by decide +kernel
theorem dX8_isTrue_24 : decode cX8_isTrue 24 = .ok (.bipush 8, 2) := by decide +kernel
theorem dX8_isTrue_26 : decode cX8_isTrue 26 = .ok (.ishr, 1) := by decide +kernel
theorem dX8_isTrue_27 : decode cX8_isTrue 27 = .ok (.istore 6, 2) := by decide +kernel
theorem dX8_isTrue_29 : decode cX8_isTrue 29 = .ok (.iload 6, 2) := by decide +kernel
theorem dX8_isTrue_31 : decode cX8_isTrue 31 = .ok (.iconst 4, 1) := by decide +kernel
theorem dX8_isTrue_32 : decode cX8_isTrue 32 = .ok (.if_icmp .ge 60, 3) := by decide +kernel
theorem dX8_isTrue_35 : decode cX8_isTrue 35 = .ok (.iload 6, 2) := by decide +kernel
theorem dX8_isTrue_37 : decode cX8_isTrue 37 = .ok (.iconst 2, 1) := by decide +kernel
theorem dX8_isTrue_38 : decode cX8_isTrue 38 = .ok (.if_icmp .ge 17, 3) := by decide +kernel
theorem dX8_isTrue_41 : decode cX8_isTrue 41 = .ok (.aload_n 0, 1) := by decide +kernel
theorem dX8_isTrue_42 : decode cX8_isTrue 42 = .ok (.getfield 9, 3) := by decide +kernel
theorem dX8_isTrue_45 : decode cX8_isTrue 45 = .ok (.iload 5, 2) := by decide +kernel
theorem dX8_isTrue_47 : decode cX8_isTrue 47 = .ok (.iaload, 1) := by decide +kernel
theorem dX8_isTrue_48 : decode cX8_isTrue 48 = .ok (.sipush 255, 3) := by decide +kernel
theorem dX8_isTrue_51 : decode cX8_isTrue 51 = .ok (.iand, 1) := by decide +kernel
theorem dX8_isTrue_52 : decode cX8_isTrue 52 = .ok (.goto 15, 3) := by decide +kernel
theorem dX8_isTrue_55 : decode cX8_isTrue 55 = .ok (.aload_n 1, 1) := by decide +kernel
theorem dX8_isTrue_56 : decode cX8_isTrue 56 = .ok (.aload_n 0, 1) := by decide +kernel
theorem dX8_isTrue_57 : decode cX8_isTrue 57 = .ok (.getfield 9, 3) := by decide +kernel
theorem dX8_isTrue_60 : decode cX8_isTrue 60 = .ok (.iload 5, 2) := by decide +kernel
theorem dX8_isTrue_62 : decode cX8_isTrue 62 = .ok (.iaload, 1) := by decide +kernel
theorem dX8_isTrue_63 : decode cX8_isTrue 63 = .ok (.bipush 7, 2) := by decide +kernel
theorem dX8_isTrue_65 : decode cX8_isTrue 65 = .ok (.iand, 1) := by decide +kernel
theorem dX8_isTrue_66 : decode cX8_isTrue 66 = .ok (.iaload, 1) := by decide +kernel
theorem dX8_isTrue_67 : decode cX8_isTrue 67 = .ok (.istore 7, 2) := by decide +kernel
theorem dX8_isTrue_69 : decode cX8_isTrue 69 = .ok (.iload 4, 2) := by decide +kernel
theorem dX8_isTrue_71 : decode cX8_isTrue 71 = .ok (.iload 6, 2) := by decide +kernel
theorem dX8_isTrue_73 : decode cX8_isTrue 73 = .ok (.iconst 1, 1) := by decide +kernel
theorem dX8_isTrue_74 : decode cX8_isTrue 74 = .ok (.iand, 1) := by decide +kernel
theorem dX8_isTrue_75 : decode cX8_isTrue 75 = .ok (.ifCond .ne 8, 3) := by decide +kernel
theorem dX8_isTrue_78 : decode cX8_isTrue 78 = .ok (.iload 7, 2) := by decide +kernel
theorem dX8_isTrue_80 : decode cX8_isTrue 80 = .ok (.goto 6, 3) := by decide +kernel
theorem dX8_isTrue_83 : decode cX8_isTrue 83 = .ok (.iload 7, 2) := by decide +kernel
theorem dX8_isTrue_85 : decode cX8_isTrue 85 = .ok (.ineg, 1) := by decide +kernel
theorem dX8_isTrue_86 : decode cX8_isTrue 86 = .ok (.iadd, 1) := by decide +kernel
theorem dX8_isTrue_87 : decode cX8_isTrue 87 = .ok (.istore 4, 2) := by decide +kernel
theorem dX8_isTrue_89 : decode cX8_isTrue 89 = .ok (.goto 123, 3) := by decide +kernel
theorem dX8_isTrue_92 : decode cX8_isTrue 92 = .ok (.iload 6, 2) := by decide +kernel
theorem dX8_isTrue_94 : decode cX8_isTrue 94 = .ok (.bipush 6, 2) := by decide +kernel
theorem dX8_isTrue_96 : decode cX8_isTrue 96 = .ok (.if_icmp .gt 74, 3) := by decide +kernel
theorem dX8_isTrue_99 : decode cX8_isTrue 99 = .ok (.iload 6, 2) := by decide +kernel
theorem dX8_isTrue_101 : decode cX8_isTrue 101 = .ok (.iconst 4, 1) := by decide +kernel
theorem dX8_isTrue_102 : decode cX8_isTrue 102 = .ok (.if_icmp .ne 16, 3) := by decide +kernel
theorem dX8_isTrue_105 : decode cX8_isTrue 105 = .ok (.iload 4, 2) := by decide +kernel
theorem dX8_isTrue_107 : decode cX8_isTrue 107 = .ok (.ifCond .ge 7, 3) := by decide +kernel
theorem dX8_isTrue_110 : decode cX8_isTrue 110 = .ok (.iconst 1, 1) := by decide +kernel
theorem dX8_isTrue_111 : decode cX8_isTrue 111 = .ok (.goto 36, 3) := by decide +kernel
theorem dX8_isTrue_114 : decode cX8_isTrue 114 = .ok (.iconst 0, 1) := by decide +kernel
theorem dX8_isTrue_115 : decode cX8_isTrue 115 = .ok (.goto 32, 3) := by decide +kernel
theorem dX8_isTrue_118 : decode cX8_isTrue 118 = .ok (.iload 6, 2) := by decide +kernel
theorem dX8_isTrue_120 : decode cX8_isTrue 120 = .ok (.iconst 5, 1) := by decide +kernel
theorem dX8_isTrue_121 : decode cX8_isTrue 121 = .ok (.if_icmp .ne 16, 3) := by decide +kernel
theorem dX8_isTrue_124 : decode cX8_isTrue 124 = .ok (.iload 4, 2) := by decide +kernel
theorem dX8_isTrue_126 : decode cX8_isTrue 126 = .ok (.ifCond .ne 7, 3) := by decide +kernel
theorem dX8_isTrue_129 : decode cX8_isTrue 129 = .ok (.iconst 1, 1) := by decide +kernel
theorem dX8_isTrue_130 : decode cX8_isTrue 130 = .ok (.goto 17, 3) := by decide +kernel
theorem dX8_isTrue_133 : decode cX8_isTrue 133 = .ok (.iconst 0, 1) := by decide +kernel
theorem dX8_isTrue_134 : decode cX8_isTrue 134 = .ok (.goto 13, 3) := by decide +kernel
theorem dX8_isTrue_137 : decode cX8_isTrue 137 = .ok (.iload 4, 2) := by decide +kernel
theorem dX8_isTrue_139 : decode cX8_isTrue 139 = .ok (.ifCond .le 7, 3) := by decide +kernel
theorem dX8_isTrue_142 : decode cX8_isTrue 142 = .ok (.iconst 1, 1) := by decide +kernel
theorem dX8_isTrue_143 : decode cX8_isTrue 143 = .ok (.goto 4, 3) := by decide +kernel
theorem dX8_isTrue_146 : decode cX8_isTrue 146 = .ok (.iconst 0, 1) := by decide +kernel
theorem dX8_isTrue_147 : decode cX8_isTrue 147 = .ok (.istore 7, 2) := by decide +kernel
theorem dX8_isTrue_149 : decode cX8_isTrue 149 = .ok (.lload_n 2, 1) := by decide +kernel
theorem dX8_isTrue_150 : decode cX8_isTrue 150 = .ok (.iconst 1, 1) := by decide +kernel
theorem dX8_isTrue_151 : decode cX8_isTrue 151 = .ok (.lshl, 1) := by decide +kernel
theorem dX8_isTrue_152 : decode cX8_isTrue 152 = .ok (.iload 7, 2) := by decide +kernel
theorem dX8_isTrue_154 : decode cX8_isTrue 154 = .ok (.ifCond .eq 7, 3) := by decide +kernel
theorem dX8_isTrue_157 : decode cX8_isTrue 157 = .ok (.lconst 1, 1) := by decide +kernel
theorem dX8_isTrue_158 : decode cX8_isTrue 158 = .ok (.goto 4, 3) := by decide +kernel
theorem dX8_isTrue_161 : decode cX8_isTrue 161 = .ok (.lconst 0, 1) := by decide +kernel
theorem dX8_isTrue_162 : decode cX8_isTrue 162 = .ok (.lor, 1) := by decide +kernel
theorem dX8_isTrue_163 : decode cX8_isTrue 163 = .ok (.lstore_n 2, 1) := by decide +kernel
theorem dX8_isTrue_164 : decode cX8_isTrue 164 = .ok (.iconst 0, 1) := by decide +kernel
theorem dX8_isTrue_165 : decode cX8_isTrue 165 = .ok (.istore 4, 2) := by decide +kernel
theorem dX8_isTrue_167 : decode cX8_isTrue 167 = .ok (.goto 45, 3) := by decide +kernel
theorem dX8_isTrue_170 : decode cX8_isTrue 170 = .ok (.iload 6, 2) := by decide +kernel
theorem dX8_isTrue_172 : decode cX8_isTrue 172 = .ok (.bipush 7, 2) := by decide +kernel
theorem dX8_isTrue_174 : decode cX8_isTrue 174 = .ok (.if_icmp .ne 10, 3) := by decide +kernel
theorem dX8_isTrue_177 : decode cX8_isTrue 177 = .ok (.lload_n 2, 1) := by decide +kernel
theorem dX8_isTrue_178 : decode cX8_isTrue 178 = .ok (.lconst 1, 1) := by decide +kernel
theorem dX8_isTrue_179 : decode cX8_isTrue 179 = .ok (.lxor, 1) := by decide +kernel
theorem dX8_isTrue_180 : decode cX8_isTrue 180 = .ok (.lstore_n 2, 1) := by decide +kernel
theorem dX8_isTrue_181 : decode cX8_isTrue 181 = .ok (.goto 31, 3) := by decide +kernel
theorem dX8_isTrue_184 : decode cX8_isTrue 184 = .ok (.iload 6, 2) := by decide +kernel
theorem dX8_isTrue_186 : decode cX8_isTrue 186 = .ok (.bipush 8, 2) := by decide +kernel
theorem dX8_isTrue_188 : decode cX8_isTrue 188 = .ok (.if_icmp .ne 16, 3) := by decide +kernel
theorem dX8_isTrue_191 : decode cX8_isTrue 191 = .ok (.lload_n 2, 1) := by decide +kernel
theorem dX8_isTrue_192 : decode cX8_isTrue 192 = .ok (.iconst 1, 1) := by decide +kernel
theorem dX8_isTrue_193 : decode cX8_isTrue 193 = .ok (.lushr, 1) := by decide +kernel
theorem dX8_isTrue_194 : decode cX8_isTrue 194 = .ok (.lload_n 2, 1) := by decide +kernel
theorem dX8_isTrue_195 : decode cX8_isTrue 195 = .ok (.ldc2_w 31, 3) := by decide +kernel
theorem dX8_isTrue_198 : decode cX8_isTrue 198 = .ok (.lor, 1) := by decide +kernel
theorem dX8_isTrue_199 : decode cX8_isTrue 199 = .ok (.land, 1) := by decide +kernel
theorem dX8_isTrue_200 : decode cX8_isTrue 200 = .ok (.lstore_n 2, 1) := by decide +kernel
theorem dX8_isTrue_201 : decode cX8_isTrue 201 = .ok (.goto 11, 3) := by decide +kernel
theorem dX8_isTrue_204 : decode cX8_isTrue 204 = .ok (.lload_n 2, 1) := by decide +kernel
theorem dX8_isTrue_205 : decode cX8_isTrue 205 = .ok (.iconst 1, 1) := by decide +kernel
theorem dX8_isTrue_206 : decode cX8_isTrue 206 = .ok (.lushr, 1) := by decide +kernel
theorem dX8_isTrue_207 : decode cX8_isTrue 207 = .ok (.lload_n 2, 1) := by decide +kernel
theorem dX8_isTrue_208 : decode cX8_isTrue 208 = .ok (.lconst 1, 1) := by decide +kernel
theorem dX8_isTrue_209 : decode cX8_isTrue 209 = .ok (.land, 1) := by decide +kernel
theorem dX8_isTrue_210 : decode cX8_isTrue 210 = .ok (.lor, 1) := by decide +kernel
theorem dX8_isTrue_211 : decode cX8_isTrue 211 = .ok (.lstore_n 2, 1) := by decide +kernel
theorem dX8_isTrue_212 : decode cX8_isTrue 212 = .ok (.iinc 5 1, 3) := by decide +kernel
theorem dX8_isTrue_215 : decode cX8_isTrue 215 = .ok (.goto (-207), 3) := by decide +kernel
theorem dX8_isTrue_218 : decode cX8_isTrue 218 = .ok (.lload_n 2, 1) := by decide +kernel
theorem dX8_isTrue_219 : decode cX8_isTrue 219 = .ok (.lconst 1, 1) := by decide +kernel
theorem dX8_isTrue_220 : decode cX8_isTrue 220 = .ok (.land, 1) := by decide +kernel
theorem dX8_isTrue_221 : decode cX8_isTrue 221 = .ok (.lconst 0, 1) := by decide +kernel
theorem dX8_isTrue_222 : decode cX8_isTrue 222 = .ok (.lcmp, 1) := by decide +kernel
theorem dX8_isTrue_223 : decode cX8_isTrue 223 = .ok (.ifCond .eq 7, 3) := by decide +kernel
theorem dX8_isTrue_226 : decode cX8_isTrue 226 = .ok (.iconst 1, 1) := by decide +kernel
theorem dX8_isTrue_227 : decode cX8_isTrue 227 = .ok (.goto 4, 3) := by decide +kernel
theorem dX8_isTrue_230 : decode cX8_isTrue 230 = .ok (.iconst 0, 1) := by decide +kernel
theorem dX8_isTrue_231 : decode cX8_isTrue 231 = .ok (.ireturn, 1) := by decide +kernel
theorem dX8_sum_0 : decode cX8_sum 0 = .ok (.iconst 0, 1) := by decide +kernel
theorem dX8_sum_1 : decode cX8_sum 1 = .ok (.istore_n 2, 1) := by decide +kernel
theorem dX8_sum_2 : decode cX8_sum 2 = .ok (.aload_n 0, 1) := by decide +kernel
theorem dX8_sum_3 : decode cX8_sum 3 = .ok (.getfield 19, 3) := by decide +kernel
theorem dX8_sum_6 : decode cX8_sum 6 = .ok (.istore_n 3, 1) := by decide +kernel
theorem dX8_sum_7 : decode cX8_sum 7 = .ok (.iload_n 3, 1) := by decide +kernel
theorem dX8_sum_8 : decode cX8_sum 8 = .ok (.aload_n 0, 1) := by decide +kernel
theorem dX8_sum_9 : decode cX8_sum 9 = .ok (.getfield 15, 3) := by decide +kernel
theorem dX8_sum_12 : decode cX8_sum 12 = .ok (.if_icmp .ge 70, 3) := by decide +kernel
theorem dX8_sum_15 : decode cX8_sum 15 = .ok (.aload_n 0, 1) := by decide +kernel
theorem dX8_sum_16 : decode cX8_sum 16 = .ok (.getfield 9, 3) := by decide +kernel
theorem dX8_sum_19 : decode cX8_sum 19 = .ok (.iload_n 3, 1) := by decide +kernel
theorem dX8_sum_20 : decode cX8_sum 20 = .ok (.iaload, 1) := by decide +kernel
theorem dX8_sum_21 : decode cX8_sum 21 = .ok (.bipush 8, 2) := by decide +kernel
theorem dX8_sum_23 : decode cX8_sum 23 = .ok (.ishr, 1) := by decide +kernel
theorem dX8_sum_24 : decode cX8_sum 24 = .ok (.istore 4, 2) := by decide +kernel
theorem dX8_sum_26 : decode cX8_sum 26 = .ok (.iload 4, 2) := by decide +kernel
theorem dX8_sum_28 : decode cX8_sum 28 = .ok (.iconst 2, 1) := by decide +kernel
theorem dX8_sum_29 : decode cX8_sum 29 = .ok (.if_icmp .ge 16, 3) := by decide +kernel
theorem dX8_sum_32 : decode cX8_sum 32 = .ok (.aload_n 0, 1) := by decide +kernel
theorem dX8_sum_33 : decode cX8_sum 33 = .ok (.getfield 9, 3) := by decide +kernel
theorem dX8_sum_36 : decode cX8_sum 36 = .ok (.iload_n 3, 1) := by decide +kernel
theorem dX8_sum_37 : decode cX8_sum 37 = .ok (.iaload, 1) := by decide +kernel
theorem dX8_sum_38 : decode cX8_sum 38 = .ok (.sipush 255, 3) := by decide +kernel
theorem dX8_sum_41 : decode cX8_sum 41 = .ok (.iand, 1) := by decide +kernel
theorem dX8_sum_42 : decode cX8_sum 42 = .ok (.goto 14, 3) := by decide +kernel
theorem dX8_sum_45 : decode cX8_sum 45 = .ok (.aload_n 1, 1) := by decide +kernel
theorem dX8_sum_46 : decode cX8_sum 46 = .ok (.aload_n 0, 1) := by decide +kernel
theorem dX8_sum_47 : decode cX8_sum 47 = .ok (.getfield 9, 3) := by decide +kernel
theorem dX8_sum_50 : decode cX8_sum 50 = .ok (.iload_n 3, 1) := by decide +kernel
theorem dX8_sum_51 : decode cX8_sum 51 = .ok (.iaload, 1) := by decide +kernel
theorem dX8_sum_52 : decode cX8_sum 52 = .ok (.bipush 7, 2) := by decide +kernel
theorem dX8_sum_54 : decode cX8_sum 54 = .ok (.iand, 1) := by decide +kernel
theorem dX8_sum_55 : decode cX8_sum 55 = .ok (.iaload, 1) := by decide +kernel
theorem dX8_sum_56 : decode cX8_sum 56 = .ok (.istore 5, 2) := by decide +kernel
theorem dX8_sum_58 : decode cX8_sum 58 = .ok (.iload_n 2, 1) := by decide +kernel
theorem dX8_sum_59 : decode cX8_sum 59 = .ok (.iload 4, 2) := by decide +kernel
theorem dX8_sum_61 : decode cX8_sum 61 = .ok (.iconst 1, 1) := by decide +kernel
theorem dX8_sum_62 : decode cX8_sum 62 = .ok (.iand, 1) := by decide +kernel
theorem dX8_sum_63 : decode cX8_sum 63 = .ok (.ifCond .ne 8, 3) := by decide +kernel
theorem dX8_sum_66 : decode cX8_sum 66 = .ok (.iload 5, 2) := by decide +kernel
theorem dX8_sum_68 : decode cX8_sum 68 = .ok (.goto 6, 3) := by decide +kernel
theorem dX8_sum_71 : decode cX8_sum 71 = .ok (.iload 5, 2) := by decide +kernel
theorem dX8_sum_73 : decode cX8_sum 73 = .ok (.ineg, 1) := by decide +kernel
theorem dX8_sum_74 : decode cX8_sum 74 = .ok (.iadd, 1) := by decide +kernel
theorem dX8_sum_75 : decode cX8_sum 75 = .ok (.istore_n 2, 1) := by decide +kernel
theorem dX8_sum_76 : decode cX8_sum 76 = .ok (.iinc 3 1, 3) := by decide +kernel
theorem dX8_sum_79 : decode cX8_sum 79 = .ok (.goto (-72), 3) := by decide +kernel
theorem dX8_sum_82 : decode cX8_sum 82 = .ok (.iload_n 2, 1) := by decide +kernel
theorem dX8_sum_83 : decode cX8_sum 83 = .ok (.ireturn, 1) := by decide +kernel
theorem dX9_init_0 : decode cX9_init 0 = .ok (.aload_n 0, 1) := by decide +kernel
theorem dX9_init_1 : decode cX9_init 1 = .ok (.invokespecial 3, 3) := by decide +kernel
theorem dX9_init_4 : decode cX9_init 4 = .ok (.aload_n 0, 1) := by decide +kernel
theorem dX9_init_5 : decode cX9_init 5 = .ok (.new 9, 3) := by decide +kernel
theorem dX9_init_8 : decode cX9_init 8 = .ok (.dup, 1) := by decide +kernel
theorem dX9_init_9 : decode cX9_init 9 = .ok (.invokespecial 11, 3) := by decide +kernel
theorem dX9_init_12 : decode cX9_init 12 = .ok (.putfield 12, 3) := by decide +kernel
theorem dX9_init_15 : decode cX9_init 15 = .ok (.aload_n 0, 1) := by decide +kernel
theorem dX9_init_16 : decode cX9_init 16 = .ok (.new 18, 3) := by decide +kernel
theorem dX9_init_19 : decode cX9_init 19 = .ok (.dup, 1) := by decide +kernel
theorem dX9_init_20 : decode cX9_init 20 = .ok (.invokespecial 20, 3) := by decide +kernel
theorem dX9_init_23 : decode cX9_init 23 = .ok (.putfield 21, 3) := by decide +kernel
theorem dX9_init_26 : decode cX9_init 26 = .ok (.aload_n 0, 1) := by decide +kernel
theorem dX9_init_27 : decode cX9_init 27 = .ok (.new 25, 3) := by decide +kernel
theorem dX9_init_30 : decode cX9_init 30 = .ok (.dup, 1) := by decide +kernel
theorem dX9_init_31 : decode cX9_init 31 = .ok (.invokespecial 27, 3) := by decide +kernel
theorem dX9_init_34 : decode cX9_init 34 = .ok (.putfield 28, 3) := by decide +kernel
theorem dX9_init_37 : decode cX9_init 37 = .ok (.aload_n 0, 1) := by decide +kernel
theorem dX9_init_38 : decode cX9_init 38 = .ok (.sipush 4096, 3) := by decide +kernel
theorem dX9_init_41 : decode cX9_init 41 = .ok (.newarray .int, 2) := by decide +kernel
theorem dX9_init_43 : decode cX9_init 43 = .ok (.putfield 32, 3) := by decide +kernel
theorem dX9_init_46 : decode cX9_init 46 = .ok (.aload_n 0, 1) := by decide +kernel
theorem dX9_init_47 : decode cX9_init 47 = .ok (.iconst 1, 1) := by decide +kernel
theorem dX9_init_48 : decode cX9_init 48 = .ok (.putfield 36, 3) := by decide +kernel
theorem dX9_init_51 : decode cX9_init 51 = .ok (.return_, 1) := by decide +kernel
theorem dX9_forget_0 : decode cX9_forget 0 = .ok (.aload_n 0, 1) := by decide +kernel
theorem dX9_forget_1 : decode cX9_forget 1 = .ok (.dup, 1) := by decide +kernel
theorem dX9_forget_2 : decode cX9_forget 2 = .ok (.getfield 36, 3) := by decide +kernel
theorem dX9_forget_5 : decode cX9_forget 5 = .ok (.iconst 1, 1) := by decide +kernel
theorem dX9_forget_6 : decode cX9_forget 6 = .ok (.iadd, 1) := by decide +kernel
theorem dX9_forget_7 : decode cX9_forget 7 = .ok (.putfield 36, 3) := by decide +kernel
theorem dX9_forget_10 : decode cX9_forget 10 = .ok (.return_, 1) := by decide +kernel
theorem dX9_of_0 : decode cX9_of 0 = .ok (.iload_n 1, 1) := by decide +kernel
theorem dX9_of_1 : decode cX9_of 1 = .ok (.sipush 4095, 3) := by decide +kernel
theorem dX9_of_4 : decode cX9_of 4 = .ok (.iand, 1) := by decide +kernel
theorem dX9_of_5 : decode cX9_of 5 = .ok (.istore_n 2, 1) := by decide +kernel
theorem dX9_of_6 : decode cX9_of 6 = .ok (.aload_n 0, 1) := by decide +kernel
theorem dX9_of_7 : decode cX9_of 7 = .ok (.getfield 32, 3) := by decide +kernel
theorem dX9_of_10 : decode cX9_of 10 = .ok (.iload_n 2, 1) := by decide +kernel
theorem dX9_of_11 : decode cX9_of 11 = .ok (.iaload, 1) := by decide +kernel
theorem dX9_of_12 : decode cX9_of 12 = .ok (.bipush 8, 2) := by decide +kernel
theorem dX9_of_14 : decode cX9_of 14 = .ok (.ishr, 1) := by decide +kernel
theorem dX9_of_15 : decode cX9_of 15 = .ok (.aload_n 0, 1) := by decide +kernel
theorem dX9_of_16 : decode cX9_of 16 = .ok (.getfield 36, 3) := by decide +kernel
theorem dX9_of_19 : decode cX9_of 19 = .ok (.if_icmp .eq 121, 3) := by decide +kernel
theorem dX9_of_22 : decode cX9_of 22 = .ok (.aload_n 0, 1) := by decide +kernel
theorem dX9_of_23 : decode cX9_of 23 = .ok (.getfield 12, 3) := by decide +kernel
theorem dX9_of_26 : decode cX9_of 26 = .ok (.iload_n 2, 1) := by decide +kernel
theorem dX9_of_27 : decode cX9_of 27 = .ok (.invokevirtual 40, 3) := by decide +kernel
theorem dX9_of_30 : decode cX9_of 30 = .ok (.sipush 4095, 3) := by decide +kernel
theorem dX9_of_33 : decode cX9_of 33 = .ok (.iand, 1) := by decide +kernel
theorem dX9_of_34 : decode cX9_of 34 = .ok (.istore_n 3, 1) := by decide +kernel
theorem dX9_of_35 : decode cX9_of 35 = .ok (.aload_n 0, 1) := by decide +kernel
theorem dX9_of_36 : decode cX9_of 36 = .ok (.getfield 32, 3) := by decide +kernel
theorem dX9_of_39 : decode cX9_of 39 = .ok (.iload_n 3, 1) := by decide +kernel
theorem dX9_of_40 : decode cX9_of 40 = .ok (.iaload, 1) := by decide +kernel
theorem dX9_of_41 : decode cX9_of 41 = .ok (.bipush 8, 2) := by decide +kernel
theorem dX9_of_43 : decode cX9_of 43 = .ok (.ishr, 1) := by decide +kernel
theorem dX9_of_44 : decode cX9_of 44 = .ok (.aload_n 0, 1) := by decide +kernel
theorem dX9_of_45 : decode cX9_of 45 = .ok (.getfield 36, 3) := by decide +kernel
theorem dX9_of_48 : decode cX9_of 48 = .ok (.if_icmp .eq 80, 3) := by decide +kernel
theorem dX9_of_51 : decode cX9_of 51 = .ok (.aload_n 0, 1) := by decide +kernel
theorem dX9_of_52 : decode cX9_of 52 = .ok (.getfield 12, 3) := by decide +kernel
theorem dX9_of_55 : decode cX9_of 55 = .ok (.iload_n 3, 1) := by decide +kernel
theorem dX9_of_56 : decode cX9_of 56 = .ok (.invokevirtual 44, 3) := by decide +kernel
theorem dX9_of_59 : decode cX9_of 59 = .ok (.lstore 4, 2) := by decide +kernel
theorem dX9_of_61 : decode cX9_of 61 = .ok (.aload_n 0, 1) := by decide +kernel
theorem dX9_of_62 : decode cX9_of 62 = .ok (.getfield 28, 3) := by decide +kernel
theorem dX9_of_65 : decode cX9_of 65 = .ok (.lload 4, 2) := by decide +kernel
theorem dX9_of_67 : decode cX9_of 67 = .ok (.iconst 0, 1) := by decide +kernel
theorem dX9_of_68 : decode cX9_of 68 = .ok (.aload_n 0, 1) := by decide +kernel
theorem dX9_of_69 : decode cX9_of 69 = .ok (.getfield 28, 3) := by decide +kernel
theorem dX9_of_72 : decode cX9_of 72 = .ok (.getfield 48, 3) := by decide +kernel
theorem dX9_of_75 : decode cX9_of 75 = .ok (.invokevirtual 51, 3) := by decide +kernel
theorem dX9_of_78 : decode cX9_of 78 = .ok (.lstore 6, 2) := by decide +kernel
theorem dX9_of_80 : decode cX9_of 80 = .ok (.aload_n 0, 1) := by decide +kernel
theorem dX9_of_81 : decode cX9_of 81 = .ok (.getfield 21, 3) := by decide +kernel
theorem dX9_of_84 : decode cX9_of 84 = .ok (.lload 6, 2) := by decide +kernel
theorem dX9_of_86 : decode cX9_of 86 = .ok (.invokevirtual 55, 3) := by decide +kernel
theorem dX9_of_89 : decode cX9_of 89 = .ok (.aload_n 0, 1) := by decide +kernel
theorem dX9_of_90 : decode cX9_of 90 = .ok (.getfield 28, 3) := by decide +kernel
theorem dX9_of_93 : decode cX9_of 93 = .ok (.lload 4, 2) := by decide +kernel
theorem dX9_of_95 : decode cX9_of 95 = .ok (.lload 6, 2) := by decide +kernel
theorem dX9_of_97 : decode cX9_of 97 = .ok (.invokevirtual 59, 3) := by decide +kernel
theorem dX9_of_100 : decode cX9_of 100 = .ok (.ifCond .eq 7, 3) := by decide +kernel
theorem dX9_of_103 : decode cX9_of 103 = .ok (.iconst 0, 1) := by decide +kernel
theorem dX9_of_104 : decode cX9_of 104 = .ok (.goto 5, 3) := by decide +kernel
theorem dX9_of_107 : decode cX9_of 107 = .ok (.bipush 64, 2) := by decide +kernel
theorem dX9_of_109 : decode cX9_of 109 = .ok (.ior, 1) := by decide +kernel
theorem dX9_of_110 : decode cX9_of 110 = .ok (.istore 8, 2) := by decide +kernel
theorem dX9_of_112 : decode cX9_of 112 = .ok (.aload_n 0, 1) := by decide +kernel
theorem dX9_of_113 : decode cX9_of 113 = .ok (.getfield 32, 3) := by decide +kernel
theorem dX9_of_116 : decode cX9_of 116 = .ok (.iload_n 3, 1) := by decide +kernel
theorem dX9_of_117 : decode cX9_of 117 = .ok (.aload_n 0, 1) := by decide +kernel
theorem dX9_of_118 : decode cX9_of 118 = .ok (.getfield 36, 3) := by decide +kernel
theorem dX9_of_121 : decode cX9_of 121 = .ok (.bipush 8, 2) := by decide +kernel
theorem dX9_of_123 : decode cX9_of 123 = .ok (.ishl, 1) := by decide +kernel
theorem dX9_of_124 : decode cX9_of 124 = .ok (.iload 8, 2) := by decide +kernel
theorem dX9_of_126 : decode cX9_of 126 = .ok (.ior, 1) := by decide +kernel
theorem dX9_of_127 : decode cX9_of 127 = .ok (.iastore, 1) := by decide +kernel
theorem dX9_of_128 : decode cX9_of 128 = .ok (.aload_n 0, 1) := by decide +kernel
theorem dX9_of_129 : decode cX9_of 129 = .ok (.getfield 32, 3) := by decide +kernel
theorem dX9_of_132 : decode cX9_of 132 = .ok (.iload_n 2, 1) := by decide +kernel
theorem dX9_of_133 : decode cX9_of 133 = .ok (.aload_n 0, 1) := by decide +kernel
theorem dX9_of_134 : decode cX9_of 134 = .ok (.getfield 32, 3) := by decide +kernel
theorem dX9_of_137 : decode cX9_of 137 = .ok (.iload_n 3, 1) := by decide +kernel
theorem dX9_of_138 : decode cX9_of 138 = .ok (.iaload, 1) := by decide +kernel
theorem dX9_of_139 : decode cX9_of 139 = .ok (.iastore, 1) := by decide +kernel
theorem dX9_of_140 : decode cX9_of 140 = .ok (.aload_n 0, 1) := by decide +kernel
theorem dX9_of_141 : decode cX9_of 141 = .ok (.getfield 32, 3) := by decide +kernel
theorem dX9_of_144 : decode cX9_of 144 = .ok (.iload_n 2, 1) := by decide +kernel
theorem dX9_of_145 : decode cX9_of 145 = .ok (.iaload, 1) := by decide +kernel
theorem dX9_of_146 : decode cX9_of 146 = .ok (.sipush 255, 3) := by decide +kernel
theorem dX9_of_149 : decode cX9_of 149 = .ok (.iand, 1) := by decide +kernel
theorem dX9_of_150 : decode cX9_of 150 = .ok (.ireturn, 1) := by decide +kernel
theorem dX9_ofEach_0 : decode cX9_ofEach 0 = .ok (.iconst 1, 1) := by decide +kernel
theorem dX9_ofEach_1 : decode cX9_ofEach 1 = .ok (.iload_n 2, 1) := by decide +kernel
theorem dX9_ofEach_2 : decode cX9_ofEach 2 = .ok (.invokestatic 63, 3) := by decide +kernel
theorem dX9_ofEach_5 : decode cX9_ofEach 5 = .ok (.ishl, 1) := by decide +kernel
theorem dX9_ofEach_6 : decode cX9_ofEach 6 = .ok (.istore_n 3, 1) := by decide +kernel
theorem dX9_ofEach_7 : decode cX9_ofEach 7 = .ok (.iconst 0, 1) := by decide +kernel
theorem dX9_ofEach_8 : decode cX9_ofEach 8 = .ok (.istore 4, 2) := by decide +kernel
theorem dX9_ofEach_10 : decode cX9_ofEach 10 = .ok (.iconst 0, 1) := by decide +kernel
theorem dX9_ofEach_11 : decode cX9_ofEach 11 = .ok (.istore 5, 2) := by decide +kernel
theorem dX9_ofEach_13 : decode cX9_ofEach 13 = .ok (.iconst 0, 1) := by decide +kernel
theorem dX9_ofEach_14 : decode cX9_ofEach 14 = .ok (.istore 6, 2) := by decide +kernel
theorem dX9_ofEach_16 : decode cX9_ofEach 16 = .ok (.iload 6, 2) := by decide +kernel
theorem dX9_ofEach_18 : decode cX9_ofEach 18 = .ok (.iload_n 3, 1) := by decide +kernel
theorem dX9_ofEach_19 : decode cX9_ofEach 19 = .ok (.if_icmp .ge 30, 3) := by decide +kernel
theorem dX9_ofEach_22 : decode cX9_ofEach 22 = .ok (.iload 4, 2) := by decide +kernel
theorem dX9_ofEach_24 : decode cX9_ofEach 24 = .ok (.aload_n 0, 1) := by decide +kernel
theorem dX9_ofEach_25 : decode cX9_ofEach 25 = .ok (.iload_n 1, 1) := by decide +kernel
theorem dX9_ofEach_26 : decode cX9_ofEach 26 = .ok (.iload 5, 2) := by decide +kernel
theorem dX9_ofEach_28 : decode cX9_ofEach 28 = .ok (.ior, 1) := by decide +kernel
theorem dX9_ofEach_29 : decode cX9_ofEach 29 = .ok (.invokevirtual 68, 3) := by decide +kernel
theorem dX9_ofEach_32 : decode cX9_ofEach 32 = .ok (.ior, 1) := by decide +kernel
theorem dX9_ofEach_33 : decode cX9_ofEach 33 = .ok (.istore 4, 2) := by decide +kernel
theorem dX9_ofEach_35 : decode cX9_ofEach 35 = .ok (.iload 5, 2) := by decide +kernel
theorem dX9_ofEach_37 : decode cX9_ofEach 37 = .ok (.iload_n 2, 1) := by decide +kernel
theorem dX9_ofEach_38 : decode cX9_ofEach 38 = .ok (.invokestatic 71, 3) := by decide +kernel
theorem dX9_ofEach_41 : decode cX9_ofEach 41 = .ok (.istore 5, 2) := by decide +kernel
theorem dX9_ofEach_43 : decode cX9_ofEach 43 = .ok (.iinc 6 1, 3) := by decide +kernel
theorem dX9_ofEach_46 : decode cX9_ofEach 46 = .ok (.goto (-30), 3) := by decide +kernel
theorem dX9_ofEach_49 : decode cX9_ofEach 49 = .ok (.iload 4, 2) := by decide +kernel
theorem dX9_ofEach_51 : decode cX9_ofEach 51 = .ok (.ireturn, 1) := by decide +kernel
theorem dX9_firstBroken_0 : decode cX9_firstBroken 0 = .ok (.aload_n 0, 1) := by decide +kernel
theorem dX9_firstBroken_1 : decode cX9_firstBroken 1 = .ok (.getfield 21, 3) := by decide +kernel
theorem dX9_firstBroken_4 : decode cX9_firstBroken 4 = .ok (.getfield 75, 3) := by decide +kernel
theorem dX9_firstBroken_7 : decode cX9_firstBroken 7 = .ok (.bipush 64, 2) := by decide +kernel
theorem dX9_firstBroken_9 : decode cX9_firstBroken 9 = .ok (.ior, 1) := by decide +kernel
theorem dX9_firstBroken_10 : decode cX9_firstBroken 10 = .ok (.istore_n 2, 1) := by decide +kernel
theorem dX9_firstBroken_11 : decode cX9_firstBroken 11 = .ok (.iconst 0, 1) := by decide +kernel
theorem dX9_firstBroken_12 : decode cX9_firstBroken 12 = .ok (.istore_n 3, 1) := by decide +kernel
theorem dX9_firstBroken_13 : decode cX9_firstBroken 13 = .ok (.iconst 0, 1) := by decide +kernel
theorem dX9_firstBroken_14 : decode cX9_firstBroken 14 = .ok (.istore 4, 2) := by decide +kernel
theorem dX9_firstBroken_16 : decode cX9_firstBroken 16 = .ok (.aload_n 0, 1) := by decide +kernel
theorem dX9_firstBroken_17 : decode cX9_firstBroken 17 = .ok (.iconst 0, 1) := by decide +kernel
theorem dX9_firstBroken_18 : decode cX9_firstBroken 18 = .ok (.invokevirtual 68, 3) := by decide +kernel
theorem dX9_firstBroken_21 : decode cX9_firstBroken 21 = .ok (.istore 5, 2) := by decide +kernel
theorem dX9_firstBroken_23 : decode cX9_firstBroken 23 = .ok (.iconst 0, 1) := by decide +kernel
theorem dX9_firstBroken_24 : decode cX9_firstBroken 24 = .ok (.istore 6, 2) := by decide +kernel
theorem dX9_firstBroken_26 : decode cX9_firstBroken 26 = .ok (.iload 6, 2) := by decide +kernel
theorem dX9_firstBroken_28 : decode cX9_firstBroken 28 = .ok (.aload_n 0, 1) := by decide +kernel
theorem dX9_firstBroken_29 : decode cX9_firstBroken 29 = .ok (.getfield 12, 3) := by decide +kernel
theorem dX9_firstBroken_32 : decode cX9_firstBroken 32 = .ok (.getfield 78, 3) := by decide +kernel
theorem dX9_firstBroken_35 : decode cX9_firstBroken 35 = .ok (.if_icmp .ge 137, 3) := by decide +kernel
theorem dX9_firstBroken_38 : decode cX9_firstBroken 38 = .ok (.iload 5, 2) := by decide +kernel
theorem dX9_firstBroken_40 : decode cX9_firstBroken 40 = .ok (.iload_n 2, 1) := by decide +kernel
theorem dX9_firstBroken_41 : decode cX9_firstBroken 41 = .ok (.iand, 1) := by decide +kernel
theorem dX9_firstBroken_42 : decode cX9_firstBroken 42 = .ok (.ifCond .ne 130, 3) := by decide +kernel
theorem dX9_firstBroken_45 : decode cX9_firstBroken 45 = .ok (.aload_n 0, 1) := by decide +kernel
theorem dX9_firstBroken_46 : decode cX9_firstBroken 46 = .ok (.getfield 12, 3) := by decide +kernel
theorem dX9_firstBroken_49 : decode cX9_firstBroken 49 = .ok (.getfield 79, 3) := by decide +kernel
theorem dX9_firstBroken_52 : decode cX9_firstBroken 52 = .ok (.iload 6, 2) := by decide +kernel
theorem dX9_firstBroken_54 : decode cX9_firstBroken 54 = .ok (.aaload, 1) := by decide +kernel
theorem dX9_firstBroken_55 : decode cX9_firstBroken 55 = .ok (.astore 7, 2) := by decide +kernel
theorem dX9_firstBroken_57 : decode cX9_firstBroken 57 = .ok (.iload_n 1, 1) := by decide +kernel
theorem dX9_firstBroken_58 : decode cX9_firstBroken 58 = .ok (.iconst 1, 1) := by decide +kernel
theorem dX9_firstBroken_59 : decode cX9_firstBroken 59 = .ok (.iload 6, 2) := by decide +kernel
theorem dX9_firstBroken_61 : decode cX9_firstBroken 61 = .ok (.ishl, 1) := by decide +kernel
theorem dX9_firstBroken_62 : decode cX9_firstBroken 62 = .ok (.iand, 1) := by decide +kernel
theorem dX9_firstBroken_63 : decode cX9_firstBroken 63 = .ok (.istore 8, 2) := by decide +kernel
theorem dX9_firstBroken_65 : decode cX9_firstBroken 65 = .ok (.iload 8, 2) := by decide +kernel
theorem dX9_firstBroken_67 : decode cX9_firstBroken 67 = .ok (.ifCond .eq 28, 3) := by decide +kernel
theorem dX9_firstBroken_70 : decode cX9_firstBroken 70 = .ok (.iload 5, 2) := by decide +kernel
theorem dX9_firstBroken_72 : decode cX9_firstBroken 72 = .ok (.aload_n 0, 1) := by decide +kernel
theorem dX9_firstBroken_73 : decode cX9_firstBroken 73 = .ok (.iload_n 3, 1) := by decide +kernel
theorem dX9_firstBroken_74 : decode cX9_firstBroken 74 = .ok (.iload 8, 2) := by decide +kernel
theorem dX9_firstBroken_76 : decode cX9_firstBroken 76 = .ok (.ior, 1) := by decide +kernel
theorem dX9_firstBroken_77 : decode cX9_firstBroken 77 = .ok (.iload 4, 2) := by decide +kernel
theorem dX9_firstBroken_79 : decode cX9_firstBroken 79 = .ok (.invokevirtual 83, 3) := by decide +kernel
theorem dX9_firstBroken_82 : decode cX9_firstBroken 82 = .ok (.ior, 1) := by decide +kernel
theorem dX9_firstBroken_83 : decode cX9_firstBroken 83 = .ok (.istore 5, 2) := by decide +kernel
theorem dX9_firstBroken_85 : decode cX9_firstBroken 85 = .ok (.iload 4, 2) := by decide +kernel
theorem dX9_firstBroken_87 : decode cX9_firstBroken 87 = .ok (.iload 8, 2) := by decide +kernel
theorem dX9_firstBroken_89 : decode cX9_firstBroken 89 = .ok (.ior, 1) := by decide +kernel
theorem dX9_firstBroken_90 : decode cX9_firstBroken 90 = .ok (.istore 4, 2) := by decide +kernel
theorem dX9_firstBroken_92 : decode cX9_firstBroken 92 = .ok (.goto 62, 3) := by decide +kernel
theorem dX9_firstBroken_95 : decode cX9_firstBroken 95 = .ok (.aload 7, 2) := by decide +kernel
theorem dX9_firstBroken_97 : decode cX9_firstBroken 97 = .ok (.invokevirtual 86, 3) := by decide +kernel
theorem dX9_firstBroken_100 : decode cX9_firstBroken 100 = .ok (.ifCond .eq 35, 3) := by decide +kernel
theorem dX9_firstBroken_103 : decode cX9_firstBroken 103 = .ok (.iload_n 3, 1) := by decide +kernel
theorem dX9_firstBroken_104 : decode cX9_firstBroken 104 = .ok (.iload 4, 2) := by decide +kernel
theorem dX9_firstBroken_106 : decode cX9_firstBroken 106 = .ok (.ior, 1) := by decide +kernel
theorem dX9_firstBroken_107 : decode cX9_firstBroken 107 = .ok (.istore_n 3, 1) := by decide +kernel
theorem dX9_firstBroken_108 : decode cX9_firstBroken 108 = .ok (.iconst 0, 1) := by decide +kernel
theorem dX9_firstBroken_109 : decode cX9_firstBroken 109 = .ok (.istore 4, 2) := by decide +kernel
theorem dX9_firstBroken_111 : decode cX9_firstBroken 111 = .ok (.aload 7, 2) := by decide +kernel
theorem dX9_firstBroken_113 : decode cX9_firstBroken 113 = .ok (.getfield 92, 3) := by decide +kernel
theorem dX9_firstBroken_116 : decode cX9_firstBroken 116 = .ok (.iconst 3, 1) := by decide +kernel
theorem dX9_firstBroken_117 : decode cX9_firstBroken 117 = .ok (.if_icmp .ne 11, 3) := by decide +kernel
theorem dX9_firstBroken_120 : decode cX9_firstBroken 120 = .ok (.aload_n 0, 1) := by decide +kernel
theorem dX9_firstBroken_121 : decode cX9_firstBroken 121 = .ok (.iload_n 3, 1) := by decide +kernel
theorem dX9_firstBroken_122 : decode cX9_firstBroken 122 = .ok (.invokevirtual 68, 3) := by decide +kernel
theorem dX9_firstBroken_125 : decode cX9_firstBroken 125 = .ok (.goto 5, 3) := by decide +kernel
theorem dX9_firstBroken_128 : decode cX9_firstBroken 128 = .ok (.iload 5, 2) := by decide +kernel
theorem dX9_firstBroken_130 : decode cX9_firstBroken 130 = .ok (.istore 5, 2) := by decide +kernel
theorem dX9_firstBroken_132 : decode cX9_firstBroken 132 = .ok (.goto 22, 3) := by decide +kernel
theorem dX9_firstBroken_135 : decode cX9_firstBroken 135 = .ok (.aload 7, 2) := by decide +kernel
theorem dX9_firstBroken_137 : decode cX9_firstBroken 137 = .ok (.getfield 92, 3) := by decide +kernel
theorem dX9_firstBroken_140 : decode cX9_firstBroken 140 = .ok (.iconst 4, 1) := by decide +kernel
theorem dX9_firstBroken_141 : decode cX9_firstBroken 141 = .ok (.if_icmp .ne 13, 3) := by decide +kernel
theorem dX9_firstBroken_144 : decode cX9_firstBroken 144 = .ok (.iload_n 2, 1) := by decide +kernel
theorem dX9_firstBroken_145 : decode cX9_firstBroken 145 = .ok (.iconst 1, 1) := by decide +kernel
theorem dX9_firstBroken_146 : decode cX9_firstBroken 146 = .ok (.aload 7, 2) := by decide +kernel
theorem dX9_firstBroken_148 : decode cX9_firstBroken 148 = .ok (.getfield 95, 3) := by decide +kernel
theorem dX9_firstBroken_151 : decode cX9_firstBroken 151 = .ok (.ishl, 1) := by decide +kernel
theorem dX9_firstBroken_152 : decode cX9_firstBroken 152 = .ok (.ior, 1) := by decide +kernel
theorem dX9_firstBroken_153 : decode cX9_firstBroken 153 = .ok (.istore_n 2, 1) := by decide +kernel
theorem dX9_firstBroken_154 : decode cX9_firstBroken 154 = .ok (.iload 5, 2) := by decide +kernel
theorem dX9_firstBroken_156 : decode cX9_firstBroken 156 = .ok (.iload_n 2, 1) := by decide +kernel
theorem dX9_firstBroken_157 : decode cX9_firstBroken 157 = .ok (.iand, 1) := by decide +kernel
theorem dX9_firstBroken_158 : decode cX9_firstBroken 158 = .ok (.ifCond .eq 8, 3) := by decide +kernel
theorem dX9_firstBroken_161 : decode cX9_firstBroken 161 = .ok (.iload 6, 2) := by decide +kernel
theorem dX9_firstBroken_163 : decode cX9_firstBroken 163 = .ok (.iconst 1, 1) := by decide +kernel
theorem dX9_firstBroken_164 : decode cX9_firstBroken 164 = .ok (.iadd, 1) := by decide +kernel
theorem dX9_firstBroken_165 : decode cX9_firstBroken 165 = .ok (.ireturn, 1) := by decide +kernel
theorem dX9_firstBroken_166 : decode cX9_firstBroken 166 = .ok (.iinc 6 1, 3) := by decide +kernel
theorem dX9_firstBroken_169 : decode cX9_firstBroken 169 = .ok (.goto (-143), 3) := by decide +kernel
theorem dX9_firstBroken_172 : decode cX9_firstBroken 172 = .ok (.iload 5, 2) := by decide +kernel
theorem dX9_firstBroken_174 : decode cX9_firstBroken 174 = .ok (.iload_n 2, 1) := by decide +kernel
theorem dX9_firstBroken_175 : decode cX9_firstBroken 175 = .ok (.iand, 1) := by decide +kernel
theorem dX9_firstBroken_176 : decode cX9_firstBroken 176 = .ok (.ifCond .eq 7, 3) := by decide +kernel
theorem dX9_firstBroken_179 : decode cX9_firstBroken 179 = .ok (.iconst 0, 1) := by decide +kernel
theorem dX9_firstBroken_180 : decode cX9_firstBroken 180 = .ok (.goto 4, 3) := by decide +kernel
theorem dX9_firstBroken_183 : decode cX9_firstBroken 183 = .ok (.iconst (-1), 1) := by decide +kernel
theorem dX9_firstBroken_184 : decode cX9_firstBroken 184 = .ok (.ireturn, 1) := by decide +kernel

theorem dX11_cut_13 : decode cX11_cut 13 = .ok (.aload_n 0, 1) := by decide +kernel
theorem dX11_cut_14 : decode cX11_cut 14 = .ok (.getfield 159, 3) := by decide +kernel
theorem dX11_cut_17 : decode cX11_cut 17 = .ok (.invokestatic 89, 3) := by decide +kernel
theorem dX11_cut_20 : decode cX11_cut 20 = .ok (.ifCond .eq 12, 3) := by decide +kernel
theorem dX11_cut_23 : decode cX11_cut 23 = .ok (.aload_n 0, 1) := by decide +kernel
theorem dX11_cut_24 : decode cX11_cut 24 = .ok (.lload_n 1, 1) := by decide +kernel
theorem dX11_cut_25 : decode cX11_cut 25 = .ok (.iload_n 3, 1) := by decide +kernel
theorem dX11_cut_26 : decode cX11_cut 26 = .ok (.invokevirtual 206, 3) := by decide +kernel
theorem dX11_cut_29 : decode cX11_cut 29 = .ok (.goto 6, 3) := by decide +kernel
theorem dX11_cut_32 : decode cX11_cut 32 = .ok (.ldc2_w 221, 3) := by decide +kernel
theorem dX11_cut_35 : decode cX11_cut 35 = .ok (.lreturn, 1) := by decide +kernel
theorem dX11_steady_0 : decode cX11_steady 0 = .ok (.lload_n 1, 1) := by decide +kernel
theorem dX11_steady_1 : decode cX11_steady 1 = .ok (.invokestatic 212, 3) := by decide +kernel
theorem dX11_steady_4 : decode cX11_steady 4 = .ok (.ifCond .ne 8, 3) := by decide +kernel
theorem dX11_steady_7 : decode cX11_steady 7 = .ok (.bipush (-102), 2) := by decide +kernel
theorem dX11_steady_9 : decode cX11_steady 9 = .ok (.goto 16, 3) := by decide +kernel
theorem dX11_steady_12 : decode cX11_steady 12 = .ok (.aload_n 0, 1) := by decide +kernel
theorem dX11_steady_13 : decode cX11_steady 13 = .ok (.lload_n 1, 1) := by decide +kernel
theorem dX11_steady_14 : decode cX11_steady 14 = .ok (.invokevirtual 223, 3) := by decide +kernel
theorem dX11_steady_17 : decode cX11_steady 17 = .ok (.ifCond .eq 7, 3) := by decide +kernel
theorem dX11_steady_20 : decode cX11_steady 20 = .ok (.iconst 1, 1) := by decide +kernel
theorem dX11_steady_21 : decode cX11_steady 21 = .ok (.goto 4, 3) := by decide +kernel
theorem dX11_steady_24 : decode cX11_steady 24 = .ok (.iconst 0, 1) := by decide +kernel
theorem dX11_steady_25 : decode cX11_steady 25 = .ok (.ireturn, 1) := by decide +kernel
theorem dX11_rulesNow_0 : decode cX11_rulesNow 0 = .ok (.iconst 0, 1) := by decide +kernel
theorem dX11_rulesNow_1 : decode cX11_rulesNow 1 = .ok (.istore_n 1, 1) := by decide +kernel
theorem dX11_rulesNow_2 : decode cX11_rulesNow 2 = .ok (.iconst 0, 1) := by decide +kernel
theorem dX11_rulesNow_3 : decode cX11_rulesNow 3 = .ok (.istore_n 2, 1) := by decide +kernel
theorem dX11_rulesNow_4 : decode cX11_rulesNow 4 = .ok (.iload_n 2, 1) := by decide +kernel
theorem dX11_rulesNow_5 : decode cX11_rulesNow 5 = .ok (.aload_n 0, 1) := by decide +kernel
theorem dX11_rulesNow_6 : decode cX11_rulesNow 6 = .ok (.getfield 111, 3) := by decide +kernel
theorem dX11_rulesNow_9 : decode cX11_rulesNow 9 = .ok (.if_icmp .ge 27, 3) := by decide +kernel
theorem dX11_rulesNow_12 : decode cX11_rulesNow 12 = .ok (.iload_n 1, 1) := by decide +kernel
theorem dX11_rulesNow_13 : decode cX11_rulesNow 13 = .ok (.aload_n 0, 1) := by decide +kernel
theorem dX11_rulesNow_14 : decode cX11_rulesNow 14 = .ok (.iload_n 2, 1) := by decide +kernel
theorem dX11_rulesNow_15 : decode cX11_rulesNow 15 = .ok (.invokevirtual 216, 3) := by decide +kernel
theorem dX11_rulesNow_18 : decode cX11_rulesNow 18 = .ok (.ifCond .eq 9, 3) := by decide +kernel
theorem dX11_rulesNow_21 : decode cX11_rulesNow 21 = .ok (.iconst 1, 1) := by decide +kernel
theorem dX11_rulesNow_22 : decode cX11_rulesNow 22 = .ok (.iload_n 2, 1) := by decide +kernel
theorem dX11_rulesNow_23 : decode cX11_rulesNow 23 = .ok (.ishl, 1) := by decide +kernel
theorem dX11_rulesNow_24 : decode cX11_rulesNow 24 = .ok (.goto 4, 3) := by decide +kernel
theorem dX11_rulesNow_27 : decode cX11_rulesNow 27 = .ok (.iconst 0, 1) := by decide +kernel
theorem dX11_rulesNow_28 : decode cX11_rulesNow 28 = .ok (.ior, 1) := by decide +kernel
theorem dX11_rulesNow_29 : decode cX11_rulesNow 29 = .ok (.istore_n 1, 1) := by decide +kernel
theorem dX11_rulesNow_30 : decode cX11_rulesNow 30 = .ok (.iinc 2 1, 3) := by decide +kernel
theorem dX11_rulesNow_33 : decode cX11_rulesNow 33 = .ok (.goto (-29), 3) := by decide +kernel
theorem dX11_rulesNow_36 : decode cX11_rulesNow 36 = .ok (.iload_n 1, 1) := by decide +kernel
theorem dX11_rulesNow_37 : decode cX11_rulesNow 37 = .ok (.ireturn, 1) := by decide +kernel
theorem dX11_asActs_0 : decode cX11_asActs 0 = .ok (.iconst 0, 1) := by decide +kernel
theorem dX11_asActs_1 : decode cX11_asActs 1 = .ok (.istore_n 2, 1) := by decide +kernel
theorem dX11_asActs_2 : decode cX11_asActs 2 = .ok (.iconst 0, 1) := by decide +kernel
theorem dX11_asActs_3 : decode cX11_asActs 3 = .ok (.istore_n 3, 1) := by decide +kernel
theorem dX11_asActs_4 : decode cX11_asActs 4 = .ok (.iload_n 3, 1) := by decide +kernel
theorem dX11_asActs_5 : decode cX11_asActs 5 = .ok (.aload_n 0, 1) := by decide +kernel
theorem dX11_asActs_6 : decode cX11_asActs 6 = .ok (.getfield 226, 3) := by decide +kernel
theorem dX11_asActs_9 : decode cX11_asActs 9 = .ok (.if_icmp .ge 33, 3) := by decide +kernel
theorem dX11_asActs_12 : decode cX11_asActs 12 = .ok (.iload_n 2, 1) := by decide +kernel
theorem dX11_asActs_13 : decode cX11_asActs 13 = .ok (.iload_n 1, 1) := by decide +kernel
theorem dX11_asActs_14 : decode cX11_asActs 14 = .ok (.iload_n 3, 1) := by decide +kernel
theorem dX11_asActs_15 : decode cX11_asActs 15 = .ok (.ishr, 1) := by decide +kernel
theorem dX11_asActs_16 : decode cX11_asActs 16 = .ok (.iconst 1, 1) := by decide +kernel
theorem dX11_asActs_17 : decode cX11_asActs 17 = .ok (.iand, 1) := by decide +kernel
theorem dX11_asActs_18 : decode cX11_asActs 18 = .ok (.iconst 1, 1) := by decide +kernel
theorem dX11_asActs_19 : decode cX11_asActs 19 = .ok (.if_icmp .ne 14, 3) := by decide +kernel
theorem dX11_asActs_22 : decode cX11_asActs 22 = .ok (.iconst 1, 1) := by decide +kernel
theorem dX11_asActs_23 : decode cX11_asActs 23 = .ok (.aload_n 0, 1) := by decide +kernel
theorem dX11_asActs_24 : decode cX11_asActs 24 = .ok (.getfield 74, 3) := by decide +kernel
theorem dX11_asActs_27 : decode cX11_asActs 27 = .ok (.iload_n 3, 1) := by decide +kernel
theorem dX11_asActs_28 : decode cX11_asActs 28 = .ok (.iaload, 1) := by decide +kernel
theorem dX11_asActs_29 : decode cX11_asActs 29 = .ok (.ishl, 1) := by decide +kernel
theorem dX11_asActs_30 : decode cX11_asActs 30 = .ok (.goto 4, 3) := by decide +kernel
theorem dX11_asActs_33 : decode cX11_asActs 33 = .ok (.iconst 0, 1) := by decide +kernel
theorem dX11_asActs_34 : decode cX11_asActs 34 = .ok (.ior, 1) := by decide +kernel
theorem dX11_asActs_35 : decode cX11_asActs 35 = .ok (.istore_n 2, 1) := by decide +kernel
theorem dX11_asActs_36 : decode cX11_asActs 36 = .ok (.iinc 3 1, 3) := by decide +kernel
theorem dX11_asActs_39 : decode cX11_asActs 39 = .ok (.goto (-35), 3) := by decide +kernel
theorem dX11_asActs_42 : decode cX11_asActs 42 = .ok (.iload_n 2, 1) := by decide +kernel
theorem dX11_asActs_43 : decode cX11_asActs 43 = .ok (.ireturn, 1) := by decide +kernel
theorem dX11_asCode_0 : decode cX11_asCode 0 = .ok (.iconst 0, 1) := by decide +kernel
theorem dX11_asCode_1 : decode cX11_asCode 1 = .ok (.istore_n 2, 1) := by decide +kernel
theorem dX11_asCode_2 : decode cX11_asCode 2 = .ok (.iconst 0, 1) := by decide +kernel
theorem dX11_asCode_3 : decode cX11_asCode 3 = .ok (.istore_n 3, 1) := by decide +kernel
theorem dX11_asCode_4 : decode cX11_asCode 4 = .ok (.iload_n 3, 1) := by decide +kernel
theorem dX11_asCode_5 : decode cX11_asCode 5 = .ok (.aload_n 0, 1) := by decide +kernel
theorem dX11_asCode_6 : decode cX11_asCode 6 = .ok (.getfield 226, 3) := by decide +kernel
theorem dX11_asCode_9 : decode cX11_asCode 9 = .ok (.if_icmp .ge 33, 3) := by decide +kernel
theorem dX11_asCode_12 : decode cX11_asCode 12 = .ok (.iload_n 2, 1) := by decide +kernel
theorem dX11_asCode_13 : decode cX11_asCode 13 = .ok (.iload_n 1, 1) := by decide +kernel
theorem dX11_asCode_14 : decode cX11_asCode 14 = .ok (.aload_n 0, 1) := by decide +kernel
theorem dX11_asCode_15 : decode cX11_asCode 15 = .ok (.getfield 74, 3) := by decide +kernel
theorem dX11_asCode_18 : decode cX11_asCode 18 = .ok (.iload_n 3, 1) := by decide +kernel
theorem dX11_asCode_19 : decode cX11_asCode 19 = .ok (.iaload, 1) := by decide +kernel
theorem dX11_asCode_20 : decode cX11_asCode 20 = .ok (.ishr, 1) := by decide +kernel
theorem dX11_asCode_21 : decode cX11_asCode 21 = .ok (.iconst 1, 1) := by decide +kernel
theorem dX11_asCode_22 : decode cX11_asCode 22 = .ok (.iand, 1) := by decide +kernel
theorem dX11_asCode_23 : decode cX11_asCode 23 = .ok (.iconst 1, 1) := by decide +kernel
theorem dX11_asCode_24 : decode cX11_asCode 24 = .ok (.if_icmp .ne 9, 3) := by decide +kernel
theorem dX11_asCode_27 : decode cX11_asCode 27 = .ok (.iconst 1, 1) := by decide +kernel
theorem dX11_asCode_28 : decode cX11_asCode 28 = .ok (.iload_n 3, 1) := by decide +kernel
theorem dX11_asCode_29 : decode cX11_asCode 29 = .ok (.ishl, 1) := by decide +kernel
theorem dX11_asCode_30 : decode cX11_asCode 30 = .ok (.goto 4, 3) := by decide +kernel
theorem dX11_asCode_33 : decode cX11_asCode 33 = .ok (.iconst 0, 1) := by decide +kernel
theorem dX11_asCode_34 : decode cX11_asCode 34 = .ok (.ior, 1) := by decide +kernel
theorem dX11_asCode_35 : decode cX11_asCode 35 = .ok (.istore_n 2, 1) := by decide +kernel
theorem dX11_asCode_36 : decode cX11_asCode 36 = .ok (.iinc 3 1, 3) := by decide +kernel
theorem dX11_asCode_39 : decode cX11_asCode 39 = .ok (.goto (-35), 3) := by decide +kernel
theorem dX11_asCode_42 : decode cX11_asCode 42 = .ok (.iload_n 2, 1) := by decide +kernel
theorem dX11_asCode_43 : decode cX11_asCode 43 = .ok (.ireturn, 1) := by decide +kernel
theorem dX11_layAll_0 : decode cX11_layAll 0 = .ok (.aload_n 0, 1) := by decide +kernel
theorem dX11_layAll_1 : decode cX11_layAll 1 = .ok (.getfield 100, 3) := by decide +kernel
theorem dX11_layAll_4 : decode cX11_layAll 4 = .ok (.ifCond .ne 162, 3) := by decide +kernel
theorem dX11_layAll_7 : decode cX11_layAll 7 = .ok (.aload_n 0, 1) := by decide +kernel
theorem dX11_layAll_8 : decode cX11_layAll 8 = .ok (.iconst 0, 1) := by decide +kernel
theorem dX11_layAll_9 : decode cX11_layAll 9 = .ok (.putfield 226, 3) := by decide +kernel
theorem dX11_layAll_12 : decode cX11_layAll 12 = .ok (.iconst 0, 1) := by decide +kernel
theorem dX11_layAll_13 : decode cX11_layAll 13 = .ok (.istore_n 1, 1) := by decide +kernel
theorem dX11_layAll_14 : decode cX11_layAll 14 = .ok (.iload_n 1, 1) := by decide +kernel
theorem dX11_layAll_15 : decode cX11_layAll 15 = .ok (.aload_n 0, 1) := by decide +kernel
theorem dX11_layAll_16 : decode cX11_layAll 16 = .ok (.getfield 104, 3) := by decide +kernel
theorem dX11_layAll_19 : decode cX11_layAll 19 = .ok (.if_icmp .ge 37, 3) := by decide +kernel
theorem dX11_layAll_22 : decode cX11_layAll 22 = .ok (.aload_n 0, 1) := by decide +kernel
theorem dX11_layAll_23 : decode cX11_layAll 23 = .ok (.iload_n 1, 1) := by decide +kernel
theorem dX11_layAll_24 : decode cX11_layAll 24 = .ok (.invokevirtual 120, 3) := by decide +kernel
theorem dX11_layAll_27 : decode cX11_layAll 27 = .ok (.ifCond .eq 23, 3) := by decide +kernel
theorem dX11_layAll_30 : decode cX11_layAll 30 = .ok (.aload_n 0, 1) := by decide +kernel
theorem dX11_layAll_31 : decode cX11_layAll 31 = .ok (.getfield 74, 3) := by decide +kernel
theorem dX11_layAll_34 : decode cX11_layAll 34 = .ok (.aload_n 0, 1) := by decide +kernel
theorem dX11_layAll_35 : decode cX11_layAll 35 = .ok (.getfield 226, 3) := by decide +kernel
theorem dX11_layAll_38 : decode cX11_layAll 38 = .ok (.iload_n 1, 1) := by decide +kernel
theorem dX11_layAll_39 : decode cX11_layAll 39 = .ok (.iastore, 1) := by decide +kernel
theorem dX11_layAll_40 : decode cX11_layAll 40 = .ok (.aload_n 0, 1) := by decide +kernel
theorem dX11_layAll_41 : decode cX11_layAll 41 = .ok (.dup, 1) := by decide +kernel
theorem dX11_layAll_42 : decode cX11_layAll 42 = .ok (.getfield 226, 3) := by decide +kernel
theorem dX11_layAll_45 : decode cX11_layAll 45 = .ok (.iconst 1, 1) := by decide +kernel
theorem dX11_layAll_46 : decode cX11_layAll 46 = .ok (.iadd, 1) := by decide +kernel
theorem dX11_layAll_47 : decode cX11_layAll 47 = .ok (.putfield 226, 3) := by decide +kernel
theorem dX11_layAll_50 : decode cX11_layAll 50 = .ok (.iinc 1 1, 3) := by decide +kernel
theorem dX11_layAll_53 : decode cX11_layAll 53 = .ok (.goto (-39), 3) := by decide +kernel
theorem dX11_layAll_56 : decode cX11_layAll 56 = .ok (.iconst 0, 1) := by decide +kernel
theorem dX11_layAll_57 : decode cX11_layAll 57 = .ok (.istore_n 1, 1) := by decide +kernel
theorem dX11_layAll_58 : decode cX11_layAll 58 = .ok (.iload_n 1, 1) := by decide +kernel
theorem dX11_layAll_59 : decode cX11_layAll 59 = .ok (.iconst 1, 1) := by decide +kernel
theorem dX11_layAll_60 : decode cX11_layAll 60 = .ok (.aload_n 0, 1) := by decide +kernel
theorem dX11_layAll_61 : decode cX11_layAll 61 = .ok (.getfield 226, 3) := by decide +kernel
theorem dX11_layAll_64 : decode cX11_layAll 64 = .ok (.ishl, 1) := by decide +kernel
theorem dX11_layAll_65 : decode cX11_layAll 65 = .ok (.if_icmp .ge 96, 3) := by decide +kernel
theorem dX11_layAll_68 : decode cX11_layAll 68 = .ok (.aload_n 0, 1) := by decide +kernel
theorem dX11_layAll_69 : decode cX11_layAll 69 = .ok (.getfield 58, 3) := by decide +kernel
theorem dX11_layAll_72 : decode cX11_layAll 72 = .ok (.iload_n 1, 1) := by decide +kernel
theorem dX11_layAll_73 : decode cX11_layAll 73 = .ok (.aload_n 0, 1) := by decide +kernel
theorem dX11_layAll_74 : decode cX11_layAll 74 = .ok (.aload_n 0, 1) := by decide +kernel
theorem dX11_layAll_75 : decode cX11_layAll 75 = .ok (.iload_n 1, 1) := by decide +kernel
theorem dX11_layAll_76 : decode cX11_layAll 76 = .ok (.invokevirtual 229, 3) := by decide +kernel
theorem dX11_layAll_79 : decode cX11_layAll 79 = .ok (.invokevirtual 127, 3) := by decide +kernel
theorem dX11_layAll_82 : decode cX11_layAll 82 = .ok (.lastore, 1) := by decide +kernel
theorem dX11_layAll_83 : decode cX11_layAll 83 = .ok (.aload_n 0, 1) := by decide +kernel
theorem dX11_layAll_84 : decode cX11_layAll 84 = .ok (.aload_n 0, 1) := by decide +kernel
theorem dX11_layAll_85 : decode cX11_layAll 85 = .ok (.getfield 58, 3) := by decide +kernel
theorem dX11_layAll_88 : decode cX11_layAll 88 = .ok (.iload_n 1, 1) := by decide +kernel
theorem dX11_layAll_89 : decode cX11_layAll 89 = .ok (.laload, 1) := by decide +kernel
theorem dX11_layAll_90 : decode cX11_layAll 90 = .ok (.invokevirtual 195, 3) := by decide +kernel
theorem dX11_layAll_93 : decode cX11_layAll 93 = .ok (.aload_n 0, 1) := by decide +kernel
theorem dX11_layAll_94 : decode cX11_layAll 94 = .ok (.getfield 65, 3) := by decide +kernel
theorem dX11_layAll_97 : decode cX11_layAll 97 = .ok (.iload_n 1, 1) := by decide +kernel
theorem dX11_layAll_98 : decode cX11_layAll 98 = .ok (.aload_n 0, 1) := by decide +kernel
theorem dX11_layAll_99 : decode cX11_layAll 99 = .ok (.invokevirtual 232, 3) := by decide +kernel
theorem dX11_layAll_102 : decode cX11_layAll 102 = .ok (.iastore, 1) := by decide +kernel
theorem dX11_layAll_103 : decode cX11_layAll 103 = .ok (.aload_n 0, 1) := by decide +kernel
theorem dX11_layAll_104 : decode cX11_layAll 104 = .ok (.getfield 62, 3) := by decide +kernel
theorem dX11_layAll_107 : decode cX11_layAll 107 = .ok (.iload_n 1, 1) := by decide +kernel
theorem dX11_layAll_108 : decode cX11_layAll 108 = .ok (.aload_n 0, 1) := by decide +kernel
theorem dX11_layAll_109 : decode cX11_layAll 109 = .ok (.aload_n 0, 1) := by decide +kernel
theorem dX11_layAll_110 : decode cX11_layAll 110 = .ok (.getfield 58, 3) := by decide +kernel
theorem dX11_layAll_113 : decode cX11_layAll 113 = .ok (.iload_n 1, 1) := by decide +kernel
theorem dX11_layAll_114 : decode cX11_layAll 114 = .ok (.laload, 1) := by decide +kernel
theorem dX11_layAll_115 : decode cX11_layAll 115 = .ok (.invokevirtual 202, 3) := by decide +kernel
theorem dX11_layAll_118 : decode cX11_layAll 118 = .ok (.lastore, 1) := by decide +kernel
theorem dX11_layAll_119 : decode cX11_layAll 119 = .ok (.aload_n 0, 1) := by decide +kernel
theorem dX11_layAll_120 : decode cX11_layAll 120 = .ok (.aload_n 0, 1) := by decide +kernel
theorem dX11_layAll_121 : decode cX11_layAll 121 = .ok (.getfield 62, 3) := by decide +kernel
theorem dX11_layAll_124 : decode cX11_layAll 124 = .ok (.iload_n 1, 1) := by decide +kernel
theorem dX11_layAll_125 : decode cX11_layAll 125 = .ok (.laload, 1) := by decide +kernel
theorem dX11_layAll_126 : decode cX11_layAll 126 = .ok (.invokevirtual 195, 3) := by decide +kernel
theorem dX11_layAll_129 : decode cX11_layAll 129 = .ok (.aload_n 0, 1) := by decide +kernel
theorem dX11_layAll_130 : decode cX11_layAll 130 = .ok (.getfield 68, 3) := by decide +kernel
theorem dX11_layAll_133 : decode cX11_layAll 133 = .ok (.iload_n 1, 1) := by decide +kernel
theorem dX11_layAll_134 : decode cX11_layAll 134 = .ok (.aload_n 0, 1) := by decide +kernel
theorem dX11_layAll_135 : decode cX11_layAll 135 = .ok (.invokevirtual 232, 3) := by decide +kernel
theorem dX11_layAll_138 : decode cX11_layAll 138 = .ok (.iastore, 1) := by decide +kernel
theorem dX11_layAll_139 : decode cX11_layAll 139 = .ok (.aload_n 0, 1) := by decide +kernel
theorem dX11_layAll_140 : decode cX11_layAll 140 = .ok (.getfield 71, 3) := by decide +kernel
theorem dX11_layAll_143 : decode cX11_layAll 143 = .ok (.iload_n 1, 1) := by decide +kernel
theorem dX11_layAll_144 : decode cX11_layAll 144 = .ok (.aload_n 0, 1) := by decide +kernel
theorem dX11_layAll_145 : decode cX11_layAll 145 = .ok (.aload_n 0, 1) := by decide +kernel
theorem dX11_layAll_146 : decode cX11_layAll 146 = .ok (.getfield 58, 3) := by decide +kernel
theorem dX11_layAll_149 : decode cX11_layAll 149 = .ok (.iload_n 1, 1) := by decide +kernel
theorem dX11_layAll_150 : decode cX11_layAll 150 = .ok (.laload, 1) := by decide +kernel
theorem dX11_layAll_151 : decode cX11_layAll 151 = .ok (.invokevirtual 223, 3) := by decide +kernel
theorem dX11_layAll_154 : decode cX11_layAll 154 = .ok (.bastore, 1) := by decide +kernel
theorem dX11_layAll_155 : decode cX11_layAll 155 = .ok (.iinc 1 1, 3) := by decide +kernel
theorem dX11_layAll_158 : decode cX11_layAll 158 = .ok (.goto (-100), 3) := by decide +kernel
theorem dX11_layAll_161 : decode cX11_layAll 161 = .ok (.aload_n 0, 1) := by decide +kernel
theorem dX11_layAll_162 : decode cX11_layAll 162 = .ok (.iconst 1, 1) := by decide +kernel
theorem dX11_layAll_163 : decode cX11_layAll 163 = .ok (.putfield 100, 3) := by decide +kernel
theorem dX11_layAll_166 : decode cX11_layAll 166 = .ok (.return_, 1) := by decide +kernel
theorem dX11_cutEpochs_0 : decode cX11_cutEpochs 0 = .ok (.aload_n 0, 1) := by decide +kernel
theorem dX11_cutEpochs_1 : decode cX11_cutEpochs 1 = .ok (.iconst 0, 1) := by decide +kernel
theorem dX11_cutEpochs_2 : decode cX11_cutEpochs 2 = .ok (.putfield 235, 3) := by decide +kernel
theorem dX11_cutEpochs_5 : decode cX11_cutEpochs 5 = .ok (.aload_n 0, 1) := by decide +kernel
theorem dX11_cutEpochs_6 : decode cX11_cutEpochs 6 = .ok (.iconst 1, 1) := by decide +kernel
theorem dX11_cutEpochs_7 : decode cX11_cutEpochs 7 = .ok (.putfield 238, 3) := by decide +kernel
theorem dX11_cutEpochs_10 : decode cX11_cutEpochs 10 = .ok (.aload_n 0, 1) := by decide +kernel
theorem dX11_cutEpochs_11 : decode cX11_cutEpochs 11 = .ok (.getfield 80, 3) := by decide +kernel
theorem dX11_cutEpochs_14 : decode cX11_cutEpochs 14 = .ok (.iconst 0, 1) := by decide +kernel
theorem dX11_cutEpochs_15 : decode cX11_cutEpochs 15 = .ok (.iconst 0, 1) := by decide +kernel
theorem dX11_cutEpochs_16 : decode cX11_cutEpochs 16 = .ok (.iastore, 1) := by decide +kernel
theorem dX11_cutEpochs_17 : decode cX11_cutEpochs 17 = .ok (.iconst 0, 1) := by decide +kernel
theorem dX11_cutEpochs_18 : decode cX11_cutEpochs 18 = .ok (.istore_n 3, 1) := by decide +kernel
theorem dX11_cutEpochs_19 : decode cX11_cutEpochs 19 = .ok (.iload_n 3, 1) := by decide +kernel
theorem dX11_cutEpochs_20 : decode cX11_cutEpochs 20 = .ok (.iload_n 1, 1) := by decide +kernel
theorem dX11_cutEpochs_21 : decode cX11_cutEpochs 21 = .ok (.if_icmp .ge 126, 3) := by decide +kernel
theorem dX11_cutEpochs_24 : decode cX11_cutEpochs 24 = .ok (.iload_n 2, 1) := by decide +kernel
theorem dX11_cutEpochs_25 : decode cX11_cutEpochs 25 = .ok (.iload_n 3, 1) := by decide +kernel
theorem dX11_cutEpochs_26 : decode cX11_cutEpochs 26 = .ok (.ishr, 1) := by decide +kernel
theorem dX11_cutEpochs_27 : decode cX11_cutEpochs 27 = .ok (.iconst 1, 1) := by decide +kernel
theorem dX11_cutEpochs_28 : decode cX11_cutEpochs 28 = .ok (.iand, 1) := by decide +kernel
theorem dX11_cutEpochs_29 : decode cX11_cutEpochs 29 = .ok (.ifCond .ne 7, 3) := by decide +kernel
theorem dX11_cutEpochs_32 : decode cX11_cutEpochs 32 = .ok (.iconst 1, 1) := by decide +kernel
theorem dX11_cutEpochs_33 : decode cX11_cutEpochs 33 = .ok (.goto 4, 3) := by decide +kernel
theorem dX11_cutEpochs_36 : decode cX11_cutEpochs 36 = .ok (.iconst 0, 1) := by decide +kernel
theorem dX11_cutEpochs_37 : decode cX11_cutEpochs 37 = .ok (.istore 4, 2) := by decide +kernel
theorem dX11_cutEpochs_39 : decode cX11_cutEpochs 39 = .ok (.iload 4, 2) := by decide +kernel
theorem dX11_cutEpochs_41 : decode cX11_cutEpochs 41 = .ok (.ifCond .eq 28, 3) := by decide +kernel
theorem dX11_cutEpochs_44 : decode cX11_cutEpochs 44 = .ok (.aload_n 0, 1) := by decide +kernel
theorem dX11_cutEpochs_45 : decode cX11_cutEpochs 45 = .ok (.iload_n 3, 1) := by decide +kernel
theorem dX11_cutEpochs_46 : decode cX11_cutEpochs 46 = .ok (.invokevirtual 120, 3) := by decide +kernel
theorem dX11_cutEpochs_49 : decode cX11_cutEpochs 49 = .ok (.ifCond .eq 20, 3) := by decide +kernel
theorem dX11_cutEpochs_52 : decode cX11_cutEpochs 52 = .ok (.aload_n 0, 1) := by decide +kernel
theorem dX11_cutEpochs_53 : decode cX11_cutEpochs 53 = .ok (.getfield 80, 3) := by decide +kernel
theorem dX11_cutEpochs_56 : decode cX11_cutEpochs 56 = .ok (.aload_n 0, 1) := by decide +kernel
theorem dX11_cutEpochs_57 : decode cX11_cutEpochs 57 = .ok (.getfield 238, 3) := by decide +kernel
theorem dX11_cutEpochs_60 : decode cX11_cutEpochs 60 = .ok (.iconst 1, 1) := by decide +kernel
theorem dX11_cutEpochs_61 : decode cX11_cutEpochs 61 = .ok (.isub, 1) := by decide +kernel
theorem dX11_cutEpochs_62 : decode cX11_cutEpochs 62 = .ok (.dup2, 1) := by decide +kernel
theorem dX11_cutEpochs_63 : decode cX11_cutEpochs 63 = .ok (.iaload, 1) := by decide +kernel
theorem dX11_cutEpochs_64 : decode cX11_cutEpochs 64 = .ok (.iconst 1, 1) := by decide +kernel
theorem dX11_cutEpochs_65 : decode cX11_cutEpochs 65 = .ok (.iload_n 3, 1) := by decide +kernel
theorem dX11_cutEpochs_66 : decode cX11_cutEpochs 66 = .ok (.ishl, 1) := by decide +kernel
theorem dX11_cutEpochs_67 : decode cX11_cutEpochs 67 = .ok (.ior, 1) := by decide +kernel
theorem dX11_cutEpochs_68 : decode cX11_cutEpochs 68 = .ok (.iastore, 1) := by decide +kernel
theorem dX11_cutEpochs_69 : decode cX11_cutEpochs 69 = .ok (.iload 4, 2) := by decide +kernel
theorem dX11_cutEpochs_71 : decode cX11_cutEpochs 71 = .ok (.ifCond .eq 17, 3) := by decide +kernel
theorem dX11_cutEpochs_74 : decode cX11_cutEpochs 74 = .ok (.aload_n 0, 1) := by decide +kernel
theorem dX11_cutEpochs_75 : decode cX11_cutEpochs 75 = .ok (.getfield 13, 3) := by decide +kernel
theorem dX11_cutEpochs_78 : decode cX11_cutEpochs 78 = .ok (.iload_n 3, 1) := by decide +kernel
theorem dX11_cutEpochs_79 : decode cX11_cutEpochs 79 = .ok (.iaload, 1) := by decide +kernel
theorem dX11_cutEpochs_80 : decode cX11_cutEpochs 80 = .ok (.iconst 2, 1) := by decide +kernel
theorem dX11_cutEpochs_81 : decode cX11_cutEpochs 81 = .ok (.if_icmp .ne 7, 3) := by decide +kernel
theorem dX11_cutEpochs_84 : decode cX11_cutEpochs 84 = .ok (.iconst 1, 1) := by decide +kernel
theorem dX11_cutEpochs_85 : decode cX11_cutEpochs 85 = .ok (.goto 23, 3) := by decide +kernel
theorem dX11_cutEpochs_88 : decode cX11_cutEpochs 88 = .ok (.iload 4, 2) := by decide +kernel
theorem dX11_cutEpochs_90 : decode cX11_cutEpochs 90 = .ok (.ifCond .eq 17, 3) := by decide +kernel
theorem dX11_cutEpochs_93 : decode cX11_cutEpochs 93 = .ok (.aload_n 0, 1) := by decide +kernel
theorem dX11_cutEpochs_94 : decode cX11_cutEpochs 94 = .ok (.getfield 13, 3) := by decide +kernel
theorem dX11_cutEpochs_97 : decode cX11_cutEpochs 97 = .ok (.iload_n 3, 1) := by decide +kernel
theorem dX11_cutEpochs_98 : decode cX11_cutEpochs 98 = .ok (.iaload, 1) := by decide +kernel
theorem dX11_cutEpochs_99 : decode cX11_cutEpochs 99 = .ok (.iconst 3, 1) := by decide +kernel
theorem dX11_cutEpochs_100 : decode cX11_cutEpochs 100 = .ok (.if_icmp .ne 7, 3) := by decide +kernel
theorem dX11_cutEpochs_103 : decode cX11_cutEpochs 103 = .ok (.iconst 2, 1) := by decide +kernel
theorem dX11_cutEpochs_104 : decode cX11_cutEpochs 104 = .ok (.goto 4, 3) := by decide +kernel
theorem dX11_cutEpochs_107 : decode cX11_cutEpochs 107 = .ok (.iconst 0, 1) := by decide +kernel
theorem dX11_cutEpochs_108 : decode cX11_cutEpochs 108 = .ok (.istore 5, 2) := by decide +kernel
theorem dX11_cutEpochs_110 : decode cX11_cutEpochs 110 = .ok (.iload_n 3, 1) := by decide +kernel
theorem dX11_cutEpochs_111 : decode cX11_cutEpochs 111 = .ok (.iload_n 1, 1) := by decide +kernel
theorem dX11_cutEpochs_112 : decode cX11_cutEpochs 112 = .ok (.iconst 1, 1) := by decide +kernel
theorem dX11_cutEpochs_113 : decode cX11_cutEpochs 113 = .ok (.isub, 1) := by decide +kernel
theorem dX11_cutEpochs_114 : decode cX11_cutEpochs 114 = .ok (.if_icmp .ge 12, 3) := by decide +kernel
theorem dX11_cutEpochs_117 : decode cX11_cutEpochs 117 = .ok (.aload_n 0, 1) := by decide +kernel
theorem dX11_cutEpochs_118 : decode cX11_cutEpochs 118 = .ok (.getfield 77, 3) := by decide +kernel
theorem dX11_cutEpochs_121 : decode cX11_cutEpochs 121 = .ok (.iload_n 3, 1) := by decide +kernel
theorem dX11_cutEpochs_122 : decode cX11_cutEpochs 122 = .ok (.iaload, 1) := by decide +kernel
theorem dX11_cutEpochs_123 : decode cX11_cutEpochs 123 = .ok (.goto 4, 3) := by decide +kernel
theorem dX11_cutEpochs_126 : decode cX11_cutEpochs 126 = .ok (.iconst 0, 1) := by decide +kernel
theorem dX11_cutEpochs_127 : decode cX11_cutEpochs 127 = .ok (.istore 6, 2) := by decide +kernel
theorem dX11_cutEpochs_129 : decode cX11_cutEpochs 129 = .ok (.aload_n 0, 1) := by decide +kernel
theorem dX11_cutEpochs_130 : decode cX11_cutEpochs 130 = .ok (.iload 5, 2) := by decide +kernel
theorem dX11_cutEpochs_132 : decode cX11_cutEpochs 132 = .ok (.invokevirtual 241, 3) := by decide +kernel
theorem dX11_cutEpochs_135 : decode cX11_cutEpochs 135 = .ok (.aload_n 0, 1) := by decide +kernel
theorem dX11_cutEpochs_136 : decode cX11_cutEpochs 136 = .ok (.iload 6, 2) := by decide +kernel
theorem dX11_cutEpochs_138 : decode cX11_cutEpochs 138 = .ok (.invokevirtual 241, 3) := by decide +kernel
theorem dX11_cutEpochs_141 : decode cX11_cutEpochs 141 = .ok (.iinc 3 1, 3) := by decide +kernel
theorem dX11_cutEpochs_144 : decode cX11_cutEpochs 144 = .ok (.goto (-125), 3) := by decide +kernel
theorem dX11_cutEpochs_147 : decode cX11_cutEpochs 147 = .ok (.return_, 1) := by decide +kernel
theorem dX11_endEpoch_0 : decode cX11_endEpoch 0 = .ok (.iload_n 1, 1) := by decide +kernel
theorem dX11_endEpoch_1 : decode cX11_endEpoch 1 = .ok (.iconst 2, 1) := by decide +kernel
theorem dX11_endEpoch_2 : decode cX11_endEpoch 2 = .ok (.if_icmp .ne 39, 3) := by decide +kernel
theorem dX11_endEpoch_5 : decode cX11_endEpoch 5 = .ok (.iconst 0, 1) := by decide +kernel
theorem dX11_endEpoch_6 : decode cX11_endEpoch 6 = .ok (.istore_n 2, 1) := by decide +kernel
theorem dX11_endEpoch_7 : decode cX11_endEpoch 7 = .ok (.iload_n 2, 1) := by decide +kernel
theorem dX11_endEpoch_8 : decode cX11_endEpoch 8 = .ok (.aload_n 0, 1) := by decide +kernel
theorem dX11_endEpoch_9 : decode cX11_endEpoch 9 = .ok (.getfield 238, 3) := by decide +kernel
theorem dX11_endEpoch_12 : decode cX11_endEpoch 12 = .ok (.if_icmp .ge 24, 3) := by decide +kernel
theorem dX11_endEpoch_15 : decode cX11_endEpoch 15 = .ok (.aload_n 0, 1) := by decide +kernel
theorem dX11_endEpoch_16 : decode cX11_endEpoch 16 = .ok (.dup, 1) := by decide +kernel
theorem dX11_endEpoch_17 : decode cX11_endEpoch 17 = .ok (.getfield 235, 3) := by decide +kernel
theorem dX11_endEpoch_20 : decode cX11_endEpoch 20 = .ok (.aload_n 0, 1) := by decide +kernel
theorem dX11_endEpoch_21 : decode cX11_endEpoch 21 = .ok (.getfield 80, 3) := by decide +kernel
theorem dX11_endEpoch_24 : decode cX11_endEpoch 24 = .ok (.iload_n 2, 1) := by decide +kernel
theorem dX11_endEpoch_25 : decode cX11_endEpoch 25 = .ok (.iaload, 1) := by decide +kernel
theorem dX11_endEpoch_26 : decode cX11_endEpoch 26 = .ok (.ior, 1) := by decide +kernel
theorem dX11_endEpoch_27 : decode cX11_endEpoch 27 = .ok (.putfield 235, 3) := by decide +kernel
theorem dX11_endEpoch_30 : decode cX11_endEpoch 30 = .ok (.iinc 2 1, 3) := by decide +kernel
theorem dX11_endEpoch_33 : decode cX11_endEpoch 33 = .ok (.goto (-26), 3) := by decide +kernel
theorem dX11_endEpoch_36 : decode cX11_endEpoch 36 = .ok (.aload_n 0, 1) := by decide +kernel
theorem dX11_endEpoch_37 : decode cX11_endEpoch 37 = .ok (.iconst 0, 1) := by decide +kernel
theorem dX11_endEpoch_38 : decode cX11_endEpoch 38 = .ok (.putfield 238, 3) := by decide +kernel
theorem dX11_endEpoch_41 : decode cX11_endEpoch 41 = .ok (.iload_n 1, 1) := by decide +kernel
theorem dX11_endEpoch_42 : decode cX11_endEpoch 42 = .ok (.ifCond .le 23, 3) := by decide +kernel
theorem dX11_endEpoch_45 : decode cX11_endEpoch 45 = .ok (.aload_n 0, 1) := by decide +kernel
theorem dX11_endEpoch_46 : decode cX11_endEpoch 46 = .ok (.getfield 80, 3) := by decide +kernel
theorem dX11_endEpoch_49 : decode cX11_endEpoch 49 = .ok (.aload_n 0, 1) := by decide +kernel
theorem dX11_endEpoch_50 : decode cX11_endEpoch 50 = .ok (.getfield 238, 3) := by decide +kernel
theorem dX11_endEpoch_53 : decode cX11_endEpoch 53 = .ok (.iconst 0, 1) := by decide +kernel
theorem dX11_endEpoch_54 : decode cX11_endEpoch 54 = .ok (.iastore, 1) := by decide +kernel
theorem dX11_endEpoch_55 : decode cX11_endEpoch 55 = .ok (.aload_n 0, 1) := by decide +kernel
theorem dX11_endEpoch_56 : decode cX11_endEpoch 56 = .ok (.dup, 1) := by decide +kernel
theorem dX11_endEpoch_57 : decode cX11_endEpoch 57 = .ok (.getfield 238, 3) := by decide +kernel
theorem dX11_endEpoch_60 : decode cX11_endEpoch 60 = .ok (.iconst 1, 1) := by decide +kernel
theorem dX11_endEpoch_61 : decode cX11_endEpoch 61 = .ok (.iadd, 1) := by decide +kernel
theorem dX11_endEpoch_62 : decode cX11_endEpoch 62 = .ok (.putfield 238, 3) := by decide +kernel
theorem dX11_endEpoch_65 : decode cX11_endEpoch 65 = .ok (.return_, 1) := by decide +kernel
theorem dX11_dueAt_0 : decode cX11_dueAt 0 = .ok (.iconst 0, 1) := by decide +kernel
theorem dX11_dueAt_1 : decode cX11_dueAt 1 = .ok (.istore_n 2, 1) := by decide +kernel
theorem dX11_dueAt_2 : decode cX11_dueAt 2 = .ok (.iconst 0, 1) := by decide +kernel
theorem dX11_dueAt_3 : decode cX11_dueAt 3 = .ok (.istore_n 3, 1) := by decide +kernel
theorem dX11_dueAt_4 : decode cX11_dueAt 4 = .ok (.iload_n 3, 1) := by decide +kernel
theorem dX11_dueAt_5 : decode cX11_dueAt 5 = .ok (.aload_n 0, 1) := by decide +kernel
theorem dX11_dueAt_6 : decode cX11_dueAt 6 = .ok (.getfield 111, 3) := by decide +kernel
theorem dX11_dueAt_9 : decode cX11_dueAt 9 = .ok (.if_icmp .ge 28, 3) := by decide +kernel
theorem dX11_dueAt_12 : decode cX11_dueAt 12 = .ok (.iload_n 2, 1) := by decide +kernel
theorem dX11_dueAt_13 : decode cX11_dueAt 13 = .ok (.aload_n 0, 1) := by decide +kernel
theorem dX11_dueAt_14 : decode cX11_dueAt 14 = .ok (.getfield 29, 3) := by decide +kernel
theorem dX11_dueAt_17 : decode cX11_dueAt 17 = .ok (.iload_n 3, 1) := by decide +kernel
theorem dX11_dueAt_18 : decode cX11_dueAt 18 = .ok (.baload, 1) := by decide +kernel
theorem dX11_dueAt_19 : decode cX11_dueAt 19 = .ok (.ifCond .eq 9, 3) := by decide +kernel
theorem dX11_dueAt_22 : decode cX11_dueAt 22 = .ok (.iconst 1, 1) := by decide +kernel
theorem dX11_dueAt_23 : decode cX11_dueAt 23 = .ok (.iload_n 3, 1) := by decide +kernel
theorem dX11_dueAt_24 : decode cX11_dueAt 24 = .ok (.ishl, 1) := by decide +kernel
theorem dX11_dueAt_25 : decode cX11_dueAt 25 = .ok (.goto 4, 3) := by decide +kernel
theorem dX11_dueAt_28 : decode cX11_dueAt 28 = .ok (.iconst 0, 1) := by decide +kernel
theorem dX11_dueAt_29 : decode cX11_dueAt 29 = .ok (.ior, 1) := by decide +kernel
theorem dX11_dueAt_30 : decode cX11_dueAt 30 = .ok (.istore_n 2, 1) := by decide +kernel
theorem dX11_dueAt_31 : decode cX11_dueAt 31 = .ok (.iinc 3 1, 3) := by decide +kernel
theorem dX11_dueAt_34 : decode cX11_dueAt 34 = .ok (.goto (-30), 3) := by decide +kernel
theorem dX11_dueAt_37 : decode cX11_dueAt 37 = .ok (.iconst 0, 1) := by decide +kernel
theorem dX11_dueAt_38 : decode cX11_dueAt 38 = .ok (.istore_n 3, 1) := by decide +kernel
theorem dX11_dueAt_39 : decode cX11_dueAt 39 = .ok (.iload_n 3, 1) := by decide +kernel
theorem dX11_dueAt_40 : decode cX11_dueAt 40 = .ok (.iload_n 1, 1) := by decide +kernel
theorem dX11_dueAt_41 : decode cX11_dueAt 41 = .ok (.if_icmp .ge 36, 3) := by decide +kernel
theorem dX11_dueAt_44 : decode cX11_dueAt 44 = .ok (.iload_n 2, 1) := by decide +kernel
theorem dX11_dueAt_45 : decode cX11_dueAt 45 = .ok (.aload_n 0, 1) := by decide +kernel
theorem dX11_dueAt_46 : decode cX11_dueAt 46 = .ok (.getfield 13, 3) := by decide +kernel
theorem dX11_dueAt_49 : decode cX11_dueAt 49 = .ok (.iload_n 3, 1) := by decide +kernel
theorem dX11_dueAt_50 : decode cX11_dueAt 50 = .ok (.iaload, 1) := by decide +kernel
theorem dX11_dueAt_51 : decode cX11_dueAt 51 = .ok (.iconst 4, 1) := by decide +kernel
theorem dX11_dueAt_52 : decode cX11_dueAt 52 = .ok (.if_icmp .ne 16, 3) := by decide +kernel
theorem dX11_dueAt_55 : decode cX11_dueAt 55 = .ok (.iconst 1, 1) := by decide +kernel
theorem dX11_dueAt_56 : decode cX11_dueAt 56 = .ok (.aload_n 0, 1) := by decide +kernel
theorem dX11_dueAt_57 : decode cX11_dueAt 57 = .ok (.getfield 16, 3) := by decide +kernel
theorem dX11_dueAt_60 : decode cX11_dueAt 60 = .ok (.iconst 4, 1) := by decide +kernel
theorem dX11_dueAt_61 : decode cX11_dueAt 61 = .ok (.iload_n 3, 1) := by decide +kernel
theorem dX11_dueAt_62 : decode cX11_dueAt 62 = .ok (.imul, 1) := by decide +kernel
theorem dX11_dueAt_63 : decode cX11_dueAt 63 = .ok (.iaload, 1) := by decide +kernel
theorem dX11_dueAt_64 : decode cX11_dueAt 64 = .ok (.ishl, 1) := by decide +kernel
theorem dX11_dueAt_65 : decode cX11_dueAt 65 = .ok (.goto 4, 3) := by decide +kernel
theorem dX11_dueAt_68 : decode cX11_dueAt 68 = .ok (.iconst 0, 1) := by decide +kernel
theorem dX11_dueAt_69 : decode cX11_dueAt 69 = .ok (.ior, 1) := by decide +kernel
theorem dX11_dueAt_70 : decode cX11_dueAt 70 = .ok (.istore_n 2, 1) := by decide +kernel
theorem dX11_dueAt_71 : decode cX11_dueAt 71 = .ok (.iinc 3 1, 3) := by decide +kernel
theorem dX11_dueAt_74 : decode cX11_dueAt 74 = .ok (.goto (-35), 3) := by decide +kernel
theorem dX11_dueAt_77 : decode cX11_dueAt 77 = .ok (.iload_n 2, 1) := by decide +kernel
theorem dX11_dueAt_78 : decode cX11_dueAt 78 = .ok (.ireturn, 1) := by decide +kernel
theorem dX11_isBroken_0 : decode cX11_isBroken 0 = .ok (.aload_n 0, 1) := by decide +kernel
theorem dX11_isBroken_1 : decode cX11_isBroken 1 = .ok (.getfield 68, 3) := by decide +kernel
theorem dX11_isBroken_4 : decode cX11_isBroken 4 = .ok (.iload_n 1, 1) := by decide +kernel
theorem dX11_isBroken_5 : decode cX11_isBroken 5 = .ok (.iaload, 1) := by decide +kernel
theorem dX11_isBroken_6 : decode cX11_isBroken 6 = .ok (.iload_n 2, 1) := by decide +kernel
theorem dX11_isBroken_7 : decode cX11_isBroken 7 = .ok (.iand, 1) := by decide +kernel
theorem dX11_isBroken_8 : decode cX11_isBroken 8 = .ok (.iload_n 2, 1) := by decide +kernel
theorem dX11_isBroken_9 : decode cX11_isBroken 9 = .ok (.if_icmp .ne 12, 3) := by decide +kernel
theorem dX11_isBroken_12 : decode cX11_isBroken 12 = .ok (.aload_n 0, 1) := by decide +kernel
theorem dX11_isBroken_13 : decode cX11_isBroken 13 = .ok (.getfield 71, 3) := by decide +kernel
theorem dX11_isBroken_16 : decode cX11_isBroken 16 = .ok (.iload_n 1, 1) := by decide +kernel
theorem dX11_isBroken_17 : decode cX11_isBroken 17 = .ok (.baload, 1) := by decide +kernel
theorem dX11_isBroken_18 : decode cX11_isBroken 18 = .ok (.ifCond .ne 7, 3) := by decide +kernel
theorem dX11_isBroken_21 : decode cX11_isBroken 21 = .ok (.iconst 1, 1) := by decide +kernel
theorem dX11_isBroken_22 : decode cX11_isBroken 22 = .ok (.goto 4, 3) := by decide +kernel
theorem dX11_isBroken_25 : decode cX11_isBroken 25 = .ok (.iconst 0, 1) := by decide +kernel
theorem dX11_isBroken_26 : decode cX11_isBroken 26 = .ok (.ireturn, 1) := by decide +kernel
theorem dX11_findSets_0 : decode cX11_findSets 0 = .ok (.aload_n 0, 1) := by decide +kernel
theorem dX11_findSets_1 : decode cX11_findSets 1 = .ok (.iload_n 1, 1) := by decide +kernel
theorem dX11_findSets_2 : decode cX11_findSets 2 = .ok (.iload_n 2, 1) := by decide +kernel
theorem dX11_findSets_3 : decode cX11_findSets 3 = .ok (.invokevirtual 244, 3) := by decide +kernel
theorem dX11_findSets_6 : decode cX11_findSets 6 = .ok (.aload_n 0, 1) := by decide +kernel
theorem dX11_findSets_7 : decode cX11_findSets 7 = .ok (.iconst 0, 1) := by decide +kernel
theorem dX11_findSets_8 : decode cX11_findSets 8 = .ok (.putfield 248, 3) := by decide +kernel
theorem dX11_findSets_11 : decode cX11_findSets 11 = .ok (.aload_n 0, 1) := by decide +kernel
theorem dX11_findSets_12 : decode cX11_findSets 12 = .ok (.getfield 235, 3) := by decide +kernel
theorem dX11_findSets_15 : decode cX11_findSets 15 = .ok (.istore_n 3, 1) := by decide +kernel
theorem dX11_findSets_16 : decode cX11_findSets 16 = .ok (.iconst 0, 1) := by decide +kernel
theorem dX11_findSets_17 : decode cX11_findSets 17 = .ok (.istore 4, 2) := by decide +kernel
theorem dX11_findSets_19 : decode cX11_findSets 19 = .ok (.iload 4, 2) := by decide +kernel
theorem dX11_findSets_21 : decode cX11_findSets 21 = .ok (.aload_n 0, 1) := by decide +kernel
theorem dX11_findSets_22 : decode cX11_findSets 22 = .ok (.getfield 238, 3) := by decide +kernel
theorem dX11_findSets_25 : decode cX11_findSets 25 = .ok (.if_icmp .ge 99, 3) := by decide +kernel
theorem dX11_findSets_28 : decode cX11_findSets 28 = .ok (.aload_n 0, 1) := by decide +kernel
theorem dX11_findSets_29 : decode cX11_findSets 29 = .ok (.aload_n 0, 1) := by decide +kernel
theorem dX11_findSets_30 : decode cX11_findSets 30 = .ok (.getfield 80, 3) := by decide +kernel
theorem dX11_findSets_33 : decode cX11_findSets 33 = .ok (.iload 4, 2) := by decide +kernel
theorem dX11_findSets_35 : decode cX11_findSets 35 = .ok (.iaload, 1) := by decide +kernel
theorem dX11_findSets_36 : decode cX11_findSets 36 = .ok (.invokevirtual 251, 3) := by decide +kernel
theorem dX11_findSets_39 : decode cX11_findSets 39 = .ok (.istore 5, 2) := by decide +kernel
theorem dX11_findSets_41 : decode cX11_findSets 41 = .ok (.aload_n 0, 1) := by decide +kernel
theorem dX11_findSets_42 : decode cX11_findSets 42 = .ok (.iload_n 3, 1) := by decide +kernel
theorem dX11_findSets_43 : decode cX11_findSets 43 = .ok (.invokevirtual 251, 3) := by decide +kernel
theorem dX11_findSets_46 : decode cX11_findSets 46 = .ok (.istore 6, 2) := by decide +kernel
theorem dX11_findSets_48 : decode cX11_findSets 48 = .ok (.iload 5, 2) := by decide +kernel
theorem dX11_findSets_50 : decode cX11_findSets 50 = .ok (.istore 7, 2) := by decide +kernel
theorem dX11_findSets_52 : decode cX11_findSets 52 = .ok (.iconst 1, 1) := by decide +kernel
theorem dX11_findSets_53 : decode cX11_findSets 53 = .ok (.istore 8, 2) := by decide +kernel
theorem dX11_findSets_55 : decode cX11_findSets 55 = .ok (.iload 8, 2) := by decide +kernel
theorem dX11_findSets_57 : decode cX11_findSets 57 = .ok (.ifCond .eq 51, 3) := by decide +kernel
theorem dX11_findSets_60 : decode cX11_findSets 60 = .ok (.aload_n 0, 1) := by decide +kernel
theorem dX11_findSets_61 : decode cX11_findSets 61 = .ok (.getfield 83, 3) := by decide +kernel
theorem dX11_findSets_64 : decode cX11_findSets 64 = .ok (.aload_n 0, 1) := by decide +kernel
theorem dX11_findSets_65 : decode cX11_findSets 65 = .ok (.getfield 248, 3) := by decide +kernel
theorem dX11_findSets_68 : decode cX11_findSets 68 = .ok (.iload 6, 2) := by decide +kernel
theorem dX11_findSets_70 : decode cX11_findSets 70 = .ok (.iload 7, 2) := by decide +kernel
theorem dX11_findSets_72 : decode cX11_findSets 72 = .ok (.ior, 1) := by decide +kernel
theorem dX11_findSets_73 : decode cX11_findSets 73 = .ok (.iastore, 1) := by decide +kernel
theorem dX11_findSets_74 : decode cX11_findSets 74 = .ok (.aload_n 0, 1) := by decide +kernel
theorem dX11_findSets_75 : decode cX11_findSets 75 = .ok (.dup, 1) := by decide +kernel
theorem dX11_findSets_76 : decode cX11_findSets 76 = .ok (.getfield 248, 3) := by decide +kernel
theorem dX11_findSets_79 : decode cX11_findSets 79 = .ok (.iconst 1, 1) := by decide +kernel
theorem dX11_findSets_80 : decode cX11_findSets 80 = .ok (.iadd, 1) := by decide +kernel
theorem dX11_findSets_81 : decode cX11_findSets 81 = .ok (.putfield 248, 3) := by decide +kernel
theorem dX11_findSets_84 : decode cX11_findSets 84 = .ok (.iload 7, 2) := by decide +kernel
theorem dX11_findSets_86 : decode cX11_findSets 86 = .ok (.ifCond .eq 7, 3) := by decide +kernel
theorem dX11_findSets_89 : decode cX11_findSets 89 = .ok (.iconst 1, 1) := by decide +kernel
theorem dX11_findSets_90 : decode cX11_findSets 90 = .ok (.goto 4, 3) := by decide +kernel
theorem dX11_findSets_93 : decode cX11_findSets 93 = .ok (.iconst 0, 1) := by decide +kernel
theorem dX11_findSets_94 : decode cX11_findSets 94 = .ok (.istore 8, 2) := by decide +kernel
theorem dX11_findSets_96 : decode cX11_findSets 96 = .ok (.iload 7, 2) := by decide +kernel
theorem dX11_findSets_98 : decode cX11_findSets 98 = .ok (.iconst 1, 1) := by decide +kernel
theorem dX11_findSets_99 : decode cX11_findSets 99 = .ok (.isub, 1) := by decide +kernel
theorem dX11_findSets_100 : decode cX11_findSets 100 = .ok (.iload 5, 2) := by decide +kernel
theorem dX11_findSets_102 : decode cX11_findSets 102 = .ok (.iand, 1) := by decide +kernel
theorem dX11_findSets_103 : decode cX11_findSets 103 = .ok (.istore 7, 2) := by decide +kernel
theorem dX11_findSets_105 : decode cX11_findSets 105 = .ok (.goto (-50), 3) := by decide +kernel
theorem dX11_findSets_108 : decode cX11_findSets 108 = .ok (.iload_n 3, 1) := by decide +kernel
theorem dX11_findSets_109 : decode cX11_findSets 109 = .ok (.aload_n 0, 1) := by decide +kernel
theorem dX11_findSets_110 : decode cX11_findSets 110 = .ok (.getfield 80, 3) := by decide +kernel
theorem dX11_findSets_113 : decode cX11_findSets 113 = .ok (.iload 4, 2) := by decide +kernel
theorem dX11_findSets_115 : decode cX11_findSets 115 = .ok (.iaload, 1) := by decide +kernel
theorem dX11_findSets_116 : decode cX11_findSets 116 = .ok (.ior, 1) := by decide +kernel
theorem dX11_findSets_117 : decode cX11_findSets 117 = .ok (.istore_n 3, 1) := by decide +kernel
theorem dX11_findSets_118 : decode cX11_findSets 118 = .ok (.iinc 4 1, 3) := by decide +kernel
theorem dX11_findSets_121 : decode cX11_findSets 121 = .ok (.goto (-102), 3) := by decide +kernel
theorem dX11_findSets_124 : decode cX11_findSets 124 = .ok (.return_, 1) := by decide +kernel
theorem dX11_isSafe_0 : decode cX11_isSafe 0 = .ok (.iconst 0, 1) := by decide +kernel
theorem dX11_isSafe_1 : decode cX11_isSafe 1 = .ok (.istore_n 2, 1) := by decide +kernel
theorem dX11_isSafe_2 : decode cX11_isSafe 2 = .ok (.iload_n 2, 1) := by decide +kernel
theorem dX11_isSafe_3 : decode cX11_isSafe 3 = .ok (.aload_n 0, 1) := by decide +kernel
theorem dX11_isSafe_4 : decode cX11_isSafe 4 = .ok (.getfield 104, 3) := by decide +kernel
theorem dX11_isSafe_7 : decode cX11_isSafe 7 = .ok (.if_icmp .gt 56, 3) := by decide +kernel
theorem dX11_isSafe_10 : decode cX11_isSafe 10 = .ok (.aload_n 0, 1) := by decide +kernel
theorem dX11_isSafe_11 : decode cX11_isSafe 11 = .ok (.iload_n 2, 1) := by decide +kernel
theorem dX11_isSafe_12 : decode cX11_isSafe 12 = .ok (.invokevirtual 254, 3) := by decide +kernel
theorem dX11_isSafe_15 : decode cX11_isSafe 15 = .ok (.istore_n 3, 1) := by decide +kernel
theorem dX11_isSafe_16 : decode cX11_isSafe 16 = .ok (.aload_n 0, 1) := by decide +kernel
theorem dX11_isSafe_17 : decode cX11_isSafe 17 = .ok (.iload_n 2, 1) := by decide +kernel
theorem dX11_isSafe_18 : decode cX11_isSafe 18 = .ok (.iload_n 1, 1) := by decide +kernel
theorem dX11_isSafe_19 : decode cX11_isSafe 19 = .ok (.invokevirtual 257, 3) := by decide +kernel
theorem dX11_isSafe_22 : decode cX11_isSafe 22 = .ok (.iconst 0, 1) := by decide +kernel
theorem dX11_isSafe_23 : decode cX11_isSafe 23 = .ok (.istore 4, 2) := by decide +kernel
theorem dX11_isSafe_25 : decode cX11_isSafe 25 = .ok (.iload 4, 2) := by decide +kernel
theorem dX11_isSafe_27 : decode cX11_isSafe 27 = .ok (.aload_n 0, 1) := by decide +kernel
theorem dX11_isSafe_28 : decode cX11_isSafe 28 = .ok (.getfield 248, 3) := by decide +kernel
theorem dX11_isSafe_31 : decode cX11_isSafe 31 = .ok (.if_icmp .ge 26, 3) := by decide +kernel
theorem dX11_isSafe_34 : decode cX11_isSafe 34 = .ok (.aload_n 0, 1) := by decide +kernel
theorem dX11_isSafe_35 : decode cX11_isSafe 35 = .ok (.aload_n 0, 1) := by decide +kernel
theorem dX11_isSafe_36 : decode cX11_isSafe 36 = .ok (.getfield 83, 3) := by decide +kernel
theorem dX11_isSafe_39 : decode cX11_isSafe 39 = .ok (.iload 4, 2) := by decide +kernel
theorem dX11_isSafe_41 : decode cX11_isSafe 41 = .ok (.iaload, 1) := by decide +kernel
theorem dX11_isSafe_42 : decode cX11_isSafe 42 = .ok (.iload_n 3, 1) := by decide +kernel
theorem dX11_isSafe_43 : decode cX11_isSafe 43 = .ok (.invokevirtual 260, 3) := by decide +kernel
theorem dX11_isSafe_46 : decode cX11_isSafe 46 = .ok (.ifCond .eq 5, 3) := by decide +kernel
theorem dX11_isSafe_49 : decode cX11_isSafe 49 = .ok (.iconst 0, 1) := by decide +kernel
theorem dX11_isSafe_50 : decode cX11_isSafe 50 = .ok (.ireturn, 1) := by decide +kernel
theorem dX11_isSafe_51 : decode cX11_isSafe 51 = .ok (.iinc 4 1, 3) := by decide +kernel
theorem dX11_isSafe_54 : decode cX11_isSafe 54 = .ok (.goto (-29), 3) := by decide +kernel
theorem dX11_isSafe_57 : decode cX11_isSafe 57 = .ok (.iinc 2 1, 3) := by decide +kernel
theorem dX11_isSafe_60 : decode cX11_isSafe 60 = .ok (.goto (-58), 3) := by decide +kernel
theorem dX11_isSafe_63 : decode cX11_isSafe 63 = .ok (.iconst 1, 1) := by decide +kernel
theorem dX11_isSafe_64 : decode cX11_isSafe 64 = .ok (.ireturn, 1) := by decide +kernel
theorem dX11_putNothing_0 : decode cX11_putNothing 0 = .ok (.iconst 0, 1) := by decide +kernel
theorem dX11_putNothing_1 : decode cX11_putNothing 1 = .ok (.istore_n 1, 1) := by decide +kernel
theorem dX11_putNothing_2 : decode cX11_putNothing 2 = .ok (.iload_n 1, 1) := by decide +kernel
theorem dX11_putNothing_3 : decode cX11_putNothing 3 = .ok (.bipush 12, 2) := by decide +kernel
theorem dX11_putNothing_5 : decode cX11_putNothing 5 = .ok (.if_icmp .ge 16, 3) := by decide +kernel
theorem dX11_putNothing_8 : decode cX11_putNothing 8 = .ok (.aload_n 0, 1) := by decide +kernel
theorem dX11_putNothing_9 : decode cX11_putNothing 9 = .ok (.getfield 77, 3) := by decide +kernel
theorem dX11_putNothing_12 : decode cX11_putNothing 12 = .ok (.iload_n 1, 1) := by decide +kernel
theorem dX11_putNothing_13 : decode cX11_putNothing 13 = .ok (.iconst 0, 1) := by decide +kernel
theorem dX11_putNothing_14 : decode cX11_putNothing 14 = .ok (.iastore, 1) := by decide +kernel
theorem dX11_putNothing_15 : decode cX11_putNothing 15 = .ok (.iinc 1 1, 3) := by decide +kernel
theorem dX11_putNothing_18 : decode cX11_putNothing 18 = .ok (.goto (-16), 3) := by decide +kernel
theorem dX11_putNothing_21 : decode cX11_putNothing 21 = .ok (.return_, 1) := by decide +kernel
theorem dX11_findPlates_0 : decode cX11_findPlates 0 = .ok (.aload_n 0, 1) := by decide +kernel
theorem dX11_findPlates_1 : decode cX11_findPlates 1 = .ok (.invokevirtual 264, 3) := by decide +kernel
theorem dX11_findPlates_4 : decode cX11_findPlates 4 = .ok (.aload_n 0, 1) := by decide +kernel
theorem dX11_findPlates_5 : decode cX11_findPlates 5 = .ok (.invokevirtual 267, 3) := by decide +kernel
theorem dX11_findPlates_8 : decode cX11_findPlates 8 = .ok (.aload_n 0, 1) := by decide +kernel
theorem dX11_findPlates_9 : decode cX11_findPlates 9 = .ok (.iload_n 1, 1) := by decide +kernel
theorem dX11_findPlates_10 : decode cX11_findPlates 10 = .ok (.iconst 0, 1) := by decide +kernel
theorem dX11_findPlates_11 : decode cX11_findPlates 11 = .ok (.invokevirtual 257, 3) := by decide +kernel
theorem dX11_findPlates_14 : decode cX11_findPlates 14 = .ok (.sipush 3280, 3) := by decide +kernel
theorem dX11_findPlates_17 : decode cX11_findPlates 17 = .ok (.istore_n 2, 1) := by decide +kernel
theorem dX11_findPlates_18 : decode cX11_findPlates 18 = .ok (.iload_n 2, 1) := by decide +kernel
theorem dX11_findPlates_19 : decode cX11_findPlates 19 = .ok (.ifCond .le 102, 3) := by decide +kernel
theorem dX11_findPlates_22 : decode cX11_findPlates 22 = .ok (.iload_n 2, 1) := by decide +kernel
theorem dX11_findPlates_23 : decode cX11_findPlates 23 = .ok (.istore_n 3, 1) := by decide +kernel
theorem dX11_findPlates_24 : decode cX11_findPlates 24 = .ok (.iload_n 3, 1) := by decide +kernel
theorem dX11_findPlates_25 : decode cX11_findPlates 25 = .ok (.aload_n 0, 1) := by decide +kernel
theorem dX11_findPlates_26 : decode cX11_findPlates 26 = .ok (.getfield 248, 3) := by decide +kernel
theorem dX11_findPlates_29 : decode cX11_findPlates 29 = .ok (.if_icmp .ge 85, 3) := by decide +kernel
theorem dX11_findPlates_32 : decode cX11_findPlates 32 = .ok (.aload_n 0, 1) := by decide +kernel
theorem dX11_findPlates_33 : decode cX11_findPlates 33 = .ok (.getfield 83, 3) := by decide +kernel
theorem dX11_findPlates_36 : decode cX11_findPlates 36 = .ok (.iload_n 3, 1) := by decide +kernel
theorem dX11_findPlates_37 : decode cX11_findPlates 37 = .ok (.iaload, 1) := by decide +kernel
theorem dX11_findPlates_38 : decode cX11_findPlates 38 = .ok (.istore 4, 2) := by decide +kernel
theorem dX11_findPlates_40 : decode cX11_findPlates 40 = .ok (.iload_n 3, 1) := by decide +kernel
theorem dX11_findPlates_41 : decode cX11_findPlates 41 = .ok (.istore 5, 2) := by decide +kernel
theorem dX11_findPlates_43 : decode cX11_findPlates 43 = .ok (.iload 5, 2) := by decide +kernel
theorem dX11_findPlates_45 : decode cX11_findPlates 45 = .ok (.iload_n 2, 1) := by decide +kernel
theorem dX11_findPlates_46 : decode cX11_findPlates 46 = .ok (.if_icmp .lt 53, 3) := by decide +kernel
theorem dX11_findPlates_49 : decode cX11_findPlates 49 = .ok (.aload_n 0, 1) := by decide +kernel
theorem dX11_findPlates_50 : decode cX11_findPlates 50 = .ok (.getfield 58, 3) := by decide +kernel
theorem dX11_findPlates_53 : decode cX11_findPlates 53 = .ok (.aload_n 0, 1) := by decide +kernel
theorem dX11_findPlates_54 : decode cX11_findPlates 54 = .ok (.getfield 83, 3) := by decide +kernel
theorem dX11_findPlates_57 : decode cX11_findPlates 57 = .ok (.iload 5, 2) := by decide +kernel
theorem dX11_findPlates_59 : decode cX11_findPlates 59 = .ok (.iload_n 2, 1) := by decide +kernel
theorem dX11_findPlates_60 : decode cX11_findPlates 60 = .ok (.isub, 1) := by decide +kernel
theorem dX11_findPlates_61 : decode cX11_findPlates 61 = .ok (.iaload, 1) := by decide +kernel
theorem dX11_findPlates_62 : decode cX11_findPlates 62 = .ok (.laload, 1) := by decide +kernel
theorem dX11_findPlates_63 : decode cX11_findPlates 63 = .ok (.aload_n 0, 1) := by decide +kernel
theorem dX11_findPlates_64 : decode cX11_findPlates 64 = .ok (.getfield 58, 3) := by decide +kernel
theorem dX11_findPlates_67 : decode cX11_findPlates 67 = .ok (.iload 4, 2) := by decide +kernel
theorem dX11_findPlates_69 : decode cX11_findPlates 69 = .ok (.laload, 1) := by decide +kernel
theorem dX11_findPlates_70 : decode cX11_findPlates 70 = .ok (.lcmp, 1) := by decide +kernel
theorem dX11_findPlates_71 : decode cX11_findPlates 71 = .ok (.ifCond .le 28, 3) := by decide +kernel
theorem dX11_findPlates_74 : decode cX11_findPlates 74 = .ok (.aload_n 0, 1) := by decide +kernel
theorem dX11_findPlates_75 : decode cX11_findPlates 75 = .ok (.getfield 83, 3) := by decide +kernel
theorem dX11_findPlates_78 : decode cX11_findPlates 78 = .ok (.iload 5, 2) := by decide +kernel
theorem dX11_findPlates_80 : decode cX11_findPlates 80 = .ok (.aload_n 0, 1) := by decide +kernel
theorem dX11_findPlates_81 : decode cX11_findPlates 81 = .ok (.getfield 83, 3) := by decide +kernel
theorem dX11_findPlates_84 : decode cX11_findPlates 84 = .ok (.iload 5, 2) := by decide +kernel
theorem dX11_findPlates_86 : decode cX11_findPlates 86 = .ok (.iload_n 2, 1) := by decide +kernel
theorem dX11_findPlates_87 : decode cX11_findPlates 87 = .ok (.isub, 1) := by decide +kernel
theorem dX11_findPlates_88 : decode cX11_findPlates 88 = .ok (.iaload, 1) := by decide +kernel
theorem dX11_findPlates_89 : decode cX11_findPlates 89 = .ok (.iastore, 1) := by decide +kernel
theorem dX11_findPlates_90 : decode cX11_findPlates 90 = .ok (.iload 5, 2) := by decide +kernel
theorem dX11_findPlates_92 : decode cX11_findPlates 92 = .ok (.iload_n 2, 1) := by decide +kernel
theorem dX11_findPlates_93 : decode cX11_findPlates 93 = .ok (.isub, 1) := by decide +kernel
theorem dX11_findPlates_94 : decode cX11_findPlates 94 = .ok (.istore 5, 2) := by decide +kernel
theorem dX11_findPlates_96 : decode cX11_findPlates 96 = .ok (.goto (-53), 3) := by decide +kernel
theorem dX11_findPlates_99 : decode cX11_findPlates 99 = .ok (.aload_n 0, 1) := by decide +kernel
theorem dX11_findPlates_100 : decode cX11_findPlates 100 = .ok (.getfield 83, 3) := by decide +kernel
theorem dX11_findPlates_103 : decode cX11_findPlates 103 = .ok (.iload 5, 2) := by decide +kernel
theorem dX11_findPlates_105 : decode cX11_findPlates 105 = .ok (.iload 4, 2) := by decide +kernel
theorem dX11_findPlates_107 : decode cX11_findPlates 107 = .ok (.iastore, 1) := by decide +kernel
theorem dX11_findPlates_108 : decode cX11_findPlates 108 = .ok (.iinc 3 1, 3) := by decide +kernel
theorem dX11_findPlates_111 : decode cX11_findPlates 111 = .ok (.goto (-87), 3) := by decide +kernel
theorem dX11_findPlates_114 : decode cX11_findPlates 114 = .ok (.iload_n 2, 1) := by decide +kernel
theorem dX11_findPlates_115 : decode cX11_findPlates 115 = .ok (.iconst 3, 1) := by decide +kernel
theorem dX11_findPlates_116 : decode cX11_findPlates 116 = .ok (.idiv, 1) := by decide +kernel
theorem dX11_findPlates_117 : decode cX11_findPlates 117 = .ok (.istore_n 2, 1) := by decide +kernel
theorem dX11_findPlates_118 : decode cX11_findPlates 118 = .ok (.goto (-100), 3) := by decide +kernel
theorem dX11_findPlates_121 : decode cX11_findPlates 121 = .ok (.aload_n 0, 1) := by decide +kernel
theorem dX11_findPlates_122 : decode cX11_findPlates 122 = .ok (.iconst 0, 1) := by decide +kernel
theorem dX11_findPlates_123 : decode cX11_findPlates 123 = .ok (.putfield 270, 3) := by decide +kernel
theorem dX11_findPlates_126 : decode cX11_findPlates 126 = .ok (.iconst 0, 1) := by decide +kernel
theorem dX11_findPlates_127 : decode cX11_findPlates 127 = .ok (.istore_n 2, 1) := by decide +kernel
theorem dX11_findPlates_128 : decode cX11_findPlates 128 = .ok (.iload_n 2, 1) := by decide +kernel
theorem dX11_findPlates_129 : decode cX11_findPlates 129 = .ok (.aload_n 0, 1) := by decide +kernel
theorem dX11_findPlates_130 : decode cX11_findPlates 130 = .ok (.getfield 248, 3) := by decide +kernel
theorem dX11_findPlates_133 : decode cX11_findPlates 133 = .ok (.if_icmp .ge 66, 3) := by decide +kernel
theorem dX11_findPlates_136 : decode cX11_findPlates 136 = .ok (.iload_n 2, 1) := by decide +kernel
theorem dX11_findPlates_137 : decode cX11_findPlates 137 = .ok (.ifCond .eq 31, 3) := by decide +kernel
theorem dX11_findPlates_140 : decode cX11_findPlates 140 = .ok (.aload_n 0, 1) := by decide +kernel
theorem dX11_findPlates_141 : decode cX11_findPlates 141 = .ok (.getfield 58, 3) := by decide +kernel
theorem dX11_findPlates_144 : decode cX11_findPlates 144 = .ok (.aload_n 0, 1) := by decide +kernel
theorem dX11_findPlates_145 : decode cX11_findPlates 145 = .ok (.getfield 83, 3) := by decide +kernel
theorem dX11_findPlates_148 : decode cX11_findPlates 148 = .ok (.iload_n 2, 1) := by decide +kernel
theorem dX11_findPlates_149 : decode cX11_findPlates 149 = .ok (.iaload, 1) := by decide +kernel
theorem dX11_findPlates_150 : decode cX11_findPlates 150 = .ok (.laload, 1) := by decide +kernel
theorem dX11_findPlates_151 : decode cX11_findPlates 151 = .ok (.aload_n 0, 1) := by decide +kernel
theorem dX11_findPlates_152 : decode cX11_findPlates 152 = .ok (.getfield 58, 3) := by decide +kernel
theorem dX11_findPlates_155 : decode cX11_findPlates 155 = .ok (.aload_n 0, 1) := by decide +kernel
theorem dX11_findPlates_156 : decode cX11_findPlates 156 = .ok (.getfield 83, 3) := by decide +kernel
theorem dX11_findPlates_159 : decode cX11_findPlates 159 = .ok (.iload_n 2, 1) := by decide +kernel
theorem dX11_findPlates_160 : decode cX11_findPlates 160 = .ok (.iconst 1, 1) := by decide +kernel
theorem dX11_findPlates_161 : decode cX11_findPlates 161 = .ok (.isub, 1) := by decide +kernel
theorem dX11_findPlates_162 : decode cX11_findPlates 162 = .ok (.iaload, 1) := by decide +kernel
theorem dX11_findPlates_163 : decode cX11_findPlates 163 = .ok (.laload, 1) := by decide +kernel
theorem dX11_findPlates_164 : decode cX11_findPlates 164 = .ok (.lcmp, 1) := by decide +kernel
theorem dX11_findPlates_165 : decode cX11_findPlates 165 = .ok (.ifCond .eq 28, 3) := by decide +kernel
theorem dX11_findPlates_168 : decode cX11_findPlates 168 = .ok (.aload_n 0, 1) := by decide +kernel
theorem dX11_findPlates_169 : decode cX11_findPlates 169 = .ok (.getfield 86, 3) := by decide +kernel
theorem dX11_findPlates_172 : decode cX11_findPlates 172 = .ok (.aload_n 0, 1) := by decide +kernel
theorem dX11_findPlates_173 : decode cX11_findPlates 173 = .ok (.getfield 270, 3) := by decide +kernel
theorem dX11_findPlates_176 : decode cX11_findPlates 176 = .ok (.aload_n 0, 1) := by decide +kernel
theorem dX11_findPlates_177 : decode cX11_findPlates 177 = .ok (.getfield 83, 3) := by decide +kernel
theorem dX11_findPlates_180 : decode cX11_findPlates 180 = .ok (.iload_n 2, 1) := by decide +kernel
theorem dX11_findPlates_181 : decode cX11_findPlates 181 = .ok (.iaload, 1) := by decide +kernel
theorem dX11_findPlates_182 : decode cX11_findPlates 182 = .ok (.iastore, 1) := by decide +kernel
theorem dX11_findPlates_183 : decode cX11_findPlates 183 = .ok (.aload_n 0, 1) := by decide +kernel
theorem dX11_findPlates_184 : decode cX11_findPlates 184 = .ok (.dup, 1) := by decide +kernel
theorem dX11_findPlates_185 : decode cX11_findPlates 185 = .ok (.getfield 270, 3) := by decide +kernel
theorem dX11_findPlates_188 : decode cX11_findPlates 188 = .ok (.iconst 1, 1) := by decide +kernel
theorem dX11_findPlates_189 : decode cX11_findPlates 189 = .ok (.iadd, 1) := by decide +kernel
theorem dX11_findPlates_190 : decode cX11_findPlates 190 = .ok (.putfield 270, 3) := by decide +kernel
theorem dX11_findPlates_193 : decode cX11_findPlates 193 = .ok (.iinc 2 1, 3) := by decide +kernel
theorem dX11_findPlates_196 : decode cX11_findPlates 196 = .ok (.goto (-68), 3) := by decide +kernel
theorem dX11_findPlates_199 : decode cX11_findPlates 199 = .ok (.return_, 1) := by decide +kernel
theorem dX11_found_0 : decode cX11_found 0 = .ok (.iload_n 1, 1) := by decide +kernel
theorem dX11_found_1 : decode cX11_found 1 = .ok (.iconst 0, 1) := by decide +kernel
theorem dX11_found_2 : decode cX11_found 2 = .ok (.aload_n 0, 1) := by decide +kernel
theorem dX11_found_3 : decode cX11_found 3 = .ok (.getfield 104, 3) := by decide +kernel
theorem dX11_found_6 : decode cX11_found 6 = .ok (.invokestatic 89, 3) := by decide +kernel
theorem dX11_found_9 : decode cX11_found 9 = .ok (.ifCond .ne 6, 3) := by decide +kernel
theorem dX11_found_12 : decode cX11_found 12 = .ok (.bipush (-102), 2) := by decide +kernel
theorem dX11_found_14 : decode cX11_found 14 = .ok (.ireturn, 1) := by decide +kernel
theorem dX11_found_15 : decode cX11_found 15 = .ok (.aload_n 0, 1) := by decide +kernel
theorem dX11_found_16 : decode cX11_found 16 = .ok (.iload_n 1, 1) := by decide +kernel
theorem dX11_found_17 : decode cX11_found 17 = .ok (.invokevirtual 273, 3) := by decide +kernel
theorem dX11_found_20 : decode cX11_found 20 = .ok (.aload_n 0, 1) := by decide +kernel
theorem dX11_found_21 : decode cX11_found 21 = .ok (.getfield 270, 3) := by decide +kernel
theorem dX11_found_24 : decode cX11_found 24 = .ok (.ireturn, 1) := by decide +kernel
theorem dX11_plate_0 : decode cX11_plate 0 = .ok (.iload_n 1, 1) := by decide +kernel
theorem dX11_plate_1 : decode cX11_plate 1 = .ok (.iconst 0, 1) := by decide +kernel
theorem dX11_plate_2 : decode cX11_plate 2 = .ok (.aload_n 0, 1) := by decide +kernel
theorem dX11_plate_3 : decode cX11_plate 3 = .ok (.getfield 104, 3) := by decide +kernel
theorem dX11_plate_6 : decode cX11_plate 6 = .ok (.invokestatic 89, 3) := by decide +kernel
theorem dX11_plate_9 : decode cX11_plate 9 = .ok (.ifCond .ne 7, 3) := by decide +kernel
theorem dX11_plate_12 : decode cX11_plate 12 = .ok (.ldc2_w 219, 3) := by decide +kernel
theorem dX11_plate_15 : decode cX11_plate 15 = .ok (.lreturn, 1) := by decide +kernel
theorem dX11_plate_16 : decode cX11_plate 16 = .ok (.aload_n 0, 1) := by decide +kernel
theorem dX11_plate_17 : decode cX11_plate 17 = .ok (.iload_n 1, 1) := by decide +kernel
theorem dX11_plate_18 : decode cX11_plate 18 = .ok (.invokevirtual 273, 3) := by decide +kernel
theorem dX11_plate_21 : decode cX11_plate 21 = .ok (.iload_n 2, 1) := by decide +kernel
theorem dX11_plate_22 : decode cX11_plate 22 = .ok (.iconst 0, 1) := by decide +kernel
theorem dX11_plate_23 : decode cX11_plate 23 = .ok (.aload_n 0, 1) := by decide +kernel
theorem dX11_plate_24 : decode cX11_plate 24 = .ok (.getfield 270, 3) := by decide +kernel
theorem dX11_plate_27 : decode cX11_plate 27 = .ok (.iconst 1, 1) := by decide +kernel
theorem dX11_plate_28 : decode cX11_plate 28 = .ok (.isub, 1) := by decide +kernel
theorem dX11_plate_29 : decode cX11_plate 29 = .ok (.invokestatic 89, 3) := by decide +kernel
theorem dX11_plate_32 : decode cX11_plate 32 = .ok (.ifCond .eq 17, 3) := by decide +kernel
theorem dX11_plate_35 : decode cX11_plate 35 = .ok (.aload_n 0, 1) := by decide +kernel
theorem dX11_plate_36 : decode cX11_plate 36 = .ok (.getfield 58, 3) := by decide +kernel
theorem dX11_plate_39 : decode cX11_plate 39 = .ok (.aload_n 0, 1) := by decide +kernel
theorem dX11_plate_40 : decode cX11_plate 40 = .ok (.getfield 86, 3) := by decide +kernel
theorem dX11_plate_43 : decode cX11_plate 43 = .ok (.iload_n 2, 1) := by decide +kernel
theorem dX11_plate_44 : decode cX11_plate 44 = .ok (.iaload, 1) := by decide +kernel
theorem dX11_plate_45 : decode cX11_plate 45 = .ok (.laload, 1) := by decide +kernel
theorem dX11_plate_46 : decode cX11_plate 46 = .ok (.goto 6, 3) := by decide +kernel
theorem dX11_plate_49 : decode cX11_plate 49 = .ok (.ldc2_w 221, 3) := by decide +kernel
theorem dX11_plate_52 : decode cX11_plate 52 = .ok (.lreturn, 1) := by decide +kernel
theorem dX11_kept_0 : decode cX11_kept 0 = .ok (.iload_n 1, 1) := by decide +kernel
theorem dX11_kept_1 : decode cX11_kept 1 = .ok (.iconst 0, 1) := by decide +kernel
theorem dX11_kept_2 : decode cX11_kept 2 = .ok (.aload_n 0, 1) := by decide +kernel
theorem dX11_kept_3 : decode cX11_kept 3 = .ok (.getfield 111, 3) := by decide +kernel
theorem dX11_kept_6 : decode cX11_kept 6 = .ok (.iconst 1, 1) := by decide +kernel
theorem dX11_kept_7 : decode cX11_kept 7 = .ok (.isub, 1) := by decide +kernel
theorem dX11_kept_8 : decode cX11_kept 8 = .ok (.invokestatic 89, 3) := by decide +kernel
theorem dX11_kept_11 : decode cX11_kept 11 = .ok (.ifCond .ne 6, 3) := by decide +kernel
theorem dX11_kept_14 : decode cX11_kept 14 = .ok (.bipush (-101), 2) := by decide +kernel
theorem dX11_kept_16 : decode cX11_kept 16 = .ok (.ireturn, 1) := by decide +kernel
theorem dX11_kept_17 : decode cX11_kept 17 = .ok (.iload_n 2, 1) := by decide +kernel
theorem dX11_kept_18 : decode cX11_kept 18 = .ok (.iconst 0, 1) := by decide +kernel
theorem dX11_kept_19 : decode cX11_kept 19 = .ok (.aload_n 0, 1) := by decide +kernel
theorem dX11_kept_20 : decode cX11_kept 20 = .ok (.getfield 104, 3) := by decide +kernel
theorem dX11_kept_23 : decode cX11_kept 23 = .ok (.invokestatic 89, 3) := by decide +kernel
theorem dX11_kept_26 : decode cX11_kept 26 = .ok (.ifCond .eq 12, 3) := by decide +kernel
theorem dX11_kept_29 : decode cX11_kept 29 = .ok (.iload_n 3, 1) := by decide +kernel
theorem dX11_kept_30 : decode cX11_kept 30 = .ok (.iconst 0, 1) := by decide +kernel
theorem dX11_kept_31 : decode cX11_kept 31 = .ok (.iconst 1, 1) := by decide +kernel
theorem dX11_kept_32 : decode cX11_kept 32 = .ok (.invokestatic 89, 3) := by decide +kernel
theorem dX11_kept_35 : decode cX11_kept 35 = .ok (.ifCond .ne 6, 3) := by decide +kernel
theorem dX11_kept_38 : decode cX11_kept 38 = .ok (.bipush (-102), 2) := by decide +kernel
theorem dX11_kept_40 : decode cX11_kept 40 = .ok (.ireturn, 1) := by decide +kernel
theorem dX11_kept_41 : decode cX11_kept 41 = .ok (.aload_n 0, 1) := by decide +kernel
theorem dX11_kept_42 : decode cX11_kept 42 = .ok (.iload_n 2, 1) := by decide +kernel
theorem dX11_kept_43 : decode cX11_kept 43 = .ok (.invokevirtual 273, 3) := by decide +kernel
theorem dX11_kept_46 : decode cX11_kept 46 = .ok (.iconst 0, 1) := by decide +kernel
theorem dX11_kept_47 : decode cX11_kept 47 = .ok (.istore 4, 2) := by decide +kernel
theorem dX11_kept_49 : decode cX11_kept 49 = .ok (.iconst 0, 1) := by decide +kernel
theorem dX11_kept_50 : decode cX11_kept 50 = .ok (.istore 5, 2) := by decide +kernel
theorem dX11_kept_52 : decode cX11_kept 52 = .ok (.iload 5, 2) := by decide +kernel
theorem dX11_kept_54 : decode cX11_kept 54 = .ok (.aload_n 0, 1) := by decide +kernel
theorem dX11_kept_55 : decode cX11_kept 55 = .ok (.getfield 270, 3) := by decide +kernel
theorem dX11_kept_58 : decode cX11_kept 58 = .ok (.if_icmp .ge 53, 3) := by decide +kernel
theorem dX11_kept_61 : decode cX11_kept 61 = .ok (.iload_n 3, 1) := by decide +kernel
theorem dX11_kept_62 : decode cX11_kept 62 = .ok (.ifCond .ne 18, 3) := by decide +kernel
theorem dX11_kept_65 : decode cX11_kept 65 = .ok (.aload_n 0, 1) := by decide +kernel
theorem dX11_kept_66 : decode cX11_kept 66 = .ok (.getfield 65, 3) := by decide +kernel
theorem dX11_kept_69 : decode cX11_kept 69 = .ok (.aload_n 0, 1) := by decide +kernel
theorem dX11_kept_70 : decode cX11_kept 70 = .ok (.getfield 86, 3) := by decide +kernel
theorem dX11_kept_73 : decode cX11_kept 73 = .ok (.iload 5, 2) := by decide +kernel
theorem dX11_kept_75 : decode cX11_kept 75 = .ok (.iaload, 1) := by decide +kernel
theorem dX11_kept_76 : decode cX11_kept 76 = .ok (.iaload, 1) := by decide +kernel
theorem dX11_kept_77 : decode cX11_kept 77 = .ok (.goto 15, 3) := by decide +kernel
theorem dX11_kept_80 : decode cX11_kept 80 = .ok (.aload_n 0, 1) := by decide +kernel
theorem dX11_kept_81 : decode cX11_kept 81 = .ok (.getfield 68, 3) := by decide +kernel
theorem dX11_kept_84 : decode cX11_kept 84 = .ok (.aload_n 0, 1) := by decide +kernel
theorem dX11_kept_85 : decode cX11_kept 85 = .ok (.getfield 86, 3) := by decide +kernel
theorem dX11_kept_88 : decode cX11_kept 88 = .ok (.iload 5, 2) := by decide +kernel
theorem dX11_kept_90 : decode cX11_kept 90 = .ok (.iaload, 1) := by decide +kernel
theorem dX11_kept_91 : decode cX11_kept 91 = .ok (.iaload, 1) := by decide +kernel
theorem dX11_kept_92 : decode cX11_kept 92 = .ok (.istore 6, 2) := by decide +kernel
theorem dX11_kept_94 : decode cX11_kept 94 = .ok (.iload 4, 2) := by decide +kernel
theorem dX11_kept_96 : decode cX11_kept 96 = .ok (.iload 6, 2) := by decide +kernel
theorem dX11_kept_98 : decode cX11_kept 98 = .ok (.iload_n 1, 1) := by decide +kernel
theorem dX11_kept_99 : decode cX11_kept 99 = .ok (.ishr, 1) := by decide +kernel
theorem dX11_kept_100 : decode cX11_kept 100 = .ok (.iconst 1, 1) := by decide +kernel
theorem dX11_kept_101 : decode cX11_kept 101 = .ok (.iand, 1) := by decide +kernel
theorem dX11_kept_102 : decode cX11_kept 102 = .ok (.iadd, 1) := by decide +kernel
theorem dX11_kept_103 : decode cX11_kept 103 = .ok (.istore 4, 2) := by decide +kernel
theorem dX11_kept_105 : decode cX11_kept 105 = .ok (.iinc 5 1, 3) := by decide +kernel
theorem dX11_kept_108 : decode cX11_kept 108 = .ok (.goto (-56), 3) := by decide +kernel
theorem dX11_kept_111 : decode cX11_kept 111 = .ok (.iload 4, 2) := by decide +kernel
theorem dX11_kept_113 : decode cX11_kept 113 = .ok (.ireturn, 1) := by decide +kernel
theorem dX11_broken_0 : decode cX11_broken 0 = .ok (.iload_n 1, 1) := by decide +kernel
theorem dX11_broken_1 : decode cX11_broken 1 = .ok (.iconst 0, 1) := by decide +kernel
theorem dX11_broken_2 : decode cX11_broken 2 = .ok (.aload_n 0, 1) := by decide +kernel
theorem dX11_broken_3 : decode cX11_broken 3 = .ok (.getfield 104, 3) := by decide +kernel
theorem dX11_broken_6 : decode cX11_broken 6 = .ok (.invokestatic 89, 3) := by decide +kernel
theorem dX11_broken_9 : decode cX11_broken 9 = .ok (.ifCond .ne 6, 3) := by decide +kernel
theorem dX11_broken_12 : decode cX11_broken 12 = .ok (.bipush (-102), 2) := by decide +kernel
theorem dX11_broken_14 : decode cX11_broken 14 = .ok (.ireturn, 1) := by decide +kernel
theorem dX11_broken_15 : decode cX11_broken 15 = .ok (.aload_n 0, 1) := by decide +kernel
theorem dX11_broken_16 : decode cX11_broken 16 = .ok (.iload_n 1, 1) := by decide +kernel
theorem dX11_broken_17 : decode cX11_broken 17 = .ok (.invokevirtual 273, 3) := by decide +kernel
theorem dX11_broken_20 : decode cX11_broken 20 = .ok (.aload_n 0, 1) := by decide +kernel
theorem dX11_broken_21 : decode cX11_broken 21 = .ok (.iload_n 1, 1) := by decide +kernel
theorem dX11_broken_22 : decode cX11_broken 22 = .ok (.invokevirtual 254, 3) := by decide +kernel
theorem dX11_broken_25 : decode cX11_broken 25 = .ok (.istore_n 2, 1) := by decide +kernel
theorem dX11_broken_26 : decode cX11_broken 26 = .ok (.iconst 0, 1) := by decide +kernel
theorem dX11_broken_27 : decode cX11_broken 27 = .ok (.istore_n 3, 1) := by decide +kernel
theorem dX11_broken_28 : decode cX11_broken 28 = .ok (.iconst 0, 1) := by decide +kernel
theorem dX11_broken_29 : decode cX11_broken 29 = .ok (.istore 4, 2) := by decide +kernel
theorem dX11_broken_31 : decode cX11_broken 31 = .ok (.iload 4, 2) := by decide +kernel
theorem dX11_broken_33 : decode cX11_broken 33 = .ok (.aload_n 0, 1) := by decide +kernel
theorem dX11_broken_34 : decode cX11_broken 34 = .ok (.getfield 270, 3) := by decide +kernel
theorem dX11_broken_37 : decode cX11_broken 37 = .ok (.if_icmp .ge 32, 3) := by decide +kernel
theorem dX11_broken_40 : decode cX11_broken 40 = .ok (.iload_n 3, 1) := by decide +kernel
theorem dX11_broken_41 : decode cX11_broken 41 = .ok (.aload_n 0, 1) := by decide +kernel
theorem dX11_broken_42 : decode cX11_broken 42 = .ok (.aload_n 0, 1) := by decide +kernel
theorem dX11_broken_43 : decode cX11_broken 43 = .ok (.getfield 86, 3) := by decide +kernel
theorem dX11_broken_46 : decode cX11_broken 46 = .ok (.iload 4, 2) := by decide +kernel
theorem dX11_broken_48 : decode cX11_broken 48 = .ok (.iaload, 1) := by decide +kernel
theorem dX11_broken_49 : decode cX11_broken 49 = .ok (.iload_n 2, 1) := by decide +kernel
theorem dX11_broken_50 : decode cX11_broken 50 = .ok (.invokevirtual 260, 3) := by decide +kernel
theorem dX11_broken_53 : decode cX11_broken 53 = .ok (.ifCond .eq 7, 3) := by decide +kernel
theorem dX11_broken_56 : decode cX11_broken 56 = .ok (.iconst 1, 1) := by decide +kernel
theorem dX11_broken_57 : decode cX11_broken 57 = .ok (.goto 4, 3) := by decide +kernel
theorem dX11_broken_60 : decode cX11_broken 60 = .ok (.iconst 0, 1) := by decide +kernel
theorem dX11_broken_61 : decode cX11_broken 61 = .ok (.iadd, 1) := by decide +kernel
theorem dX11_broken_62 : decode cX11_broken 62 = .ok (.istore_n 3, 1) := by decide +kernel
theorem dX11_broken_63 : decode cX11_broken 63 = .ok (.iinc 4 1, 3) := by decide +kernel
theorem dX11_broken_66 : decode cX11_broken 66 = .ok (.goto (-35), 3) := by decide +kernel
theorem dX11_broken_69 : decode cX11_broken 69 = .ok (.iload_n 3, 1) := by decide +kernel
theorem dX11_broken_70 : decode cX11_broken 70 = .ok (.ireturn, 1) := by decide +kernel
theorem dX11_bounds_0 : decode cX11_bounds 0 = .ok (.iload_n 1, 1) := by decide +kernel
theorem dX11_bounds_1 : decode cX11_bounds 1 = .ok (.invokestatic 93, 3) := by decide +kernel
theorem dX11_bounds_4 : decode cX11_bounds 4 = .ok (.ifCond .ne 6, 3) := by decide +kernel
theorem dX11_bounds_7 : decode cX11_bounds 7 = .ok (.bipush (-101), 2) := by decide +kernel
theorem dX11_bounds_9 : decode cX11_bounds 9 = .ok (.ireturn, 1) := by decide +kernel
theorem dX11_bounds_10 : decode cX11_bounds 10 = .ok (.iload_n 2, 1) := by decide +kernel
theorem dX11_bounds_11 : decode cX11_bounds 11 = .ok (.iconst 0, 1) := by decide +kernel
theorem dX11_bounds_12 : decode cX11_bounds 12 = .ok (.aload_n 0, 1) := by decide +kernel
theorem dX11_bounds_13 : decode cX11_bounds 13 = .ok (.getfield 104, 3) := by decide +kernel
theorem dX11_bounds_16 : decode cX11_bounds 16 = .ok (.invokestatic 89, 3) := by decide +kernel
theorem dX11_bounds_19 : decode cX11_bounds 19 = .ok (.ifCond .eq 12, 3) := by decide +kernel
theorem dX11_bounds_22 : decode cX11_bounds 22 = .ok (.iload_n 3, 1) := by decide +kernel
theorem dX11_bounds_23 : decode cX11_bounds 23 = .ok (.iconst 0, 1) := by decide +kernel
theorem dX11_bounds_24 : decode cX11_bounds 24 = .ok (.iconst 1, 1) := by decide +kernel
theorem dX11_bounds_25 : decode cX11_bounds 25 = .ok (.invokestatic 89, 3) := by decide +kernel
theorem dX11_bounds_28 : decode cX11_bounds 28 = .ok (.ifCond .ne 6, 3) := by decide +kernel
theorem dX11_bounds_31 : decode cX11_bounds 31 = .ok (.bipush (-102), 2) := by decide +kernel
theorem dX11_bounds_33 : decode cX11_bounds 33 = .ok (.ireturn, 1) := by decide +kernel
theorem dX11_bounds_34 : decode cX11_bounds 34 = .ok (.aload_n 0, 1) := by decide +kernel
theorem dX11_bounds_35 : decode cX11_bounds 35 = .ok (.iload_n 2, 1) := by decide +kernel
theorem dX11_bounds_36 : decode cX11_bounds 36 = .ok (.invokevirtual 273, 3) := by decide +kernel
theorem dX11_bounds_39 : decode cX11_bounds 39 = .ok (.iconst (-1), 1) := by decide +kernel
theorem dX11_bounds_40 : decode cX11_bounds 40 = .ok (.istore 4, 2) := by decide +kernel
theorem dX11_bounds_42 : decode cX11_bounds 42 = .ok (.iconst 0, 1) := by decide +kernel
theorem dX11_bounds_43 : decode cX11_bounds 43 = .ok (.istore 5, 2) := by decide +kernel
theorem dX11_bounds_45 : decode cX11_bounds 45 = .ok (.iload 5, 2) := by decide +kernel
theorem dX11_bounds_47 : decode cX11_bounds 47 = .ok (.aload_n 0, 1) := by decide +kernel
theorem dX11_bounds_48 : decode cX11_bounds 48 = .ok (.getfield 270, 3) := by decide +kernel
theorem dX11_bounds_51 : decode cX11_bounds 51 = .ok (.if_icmp .ge 85, 3) := by decide +kernel
theorem dX11_bounds_54 : decode cX11_bounds 54 = .ok (.aload_n 0, 1) := by decide +kernel
theorem dX11_bounds_55 : decode cX11_bounds 55 = .ok (.aload_n 0, 1) := by decide +kernel
theorem dX11_bounds_56 : decode cX11_bounds 56 = .ok (.getfield 58, 3) := by decide +kernel
theorem dX11_bounds_59 : decode cX11_bounds 59 = .ok (.aload_n 0, 1) := by decide +kernel
theorem dX11_bounds_60 : decode cX11_bounds 60 = .ok (.getfield 86, 3) := by decide +kernel
theorem dX11_bounds_63 : decode cX11_bounds 63 = .ok (.iload 5, 2) := by decide +kernel
theorem dX11_bounds_65 : decode cX11_bounds 65 = .ok (.iaload, 1) := by decide +kernel
theorem dX11_bounds_66 : decode cX11_bounds 66 = .ok (.laload, 1) := by decide +kernel
theorem dX11_bounds_67 : decode cX11_bounds 67 = .ok (.invokevirtual 195, 3) := by decide +kernel
theorem dX11_bounds_70 : decode cX11_bounds 70 = .ok (.iload 4, 2) := by decide +kernel
theorem dX11_bounds_72 : decode cX11_bounds 72 = .ok (.iconst (-1), 1) := by decide +kernel
theorem dX11_bounds_73 : decode cX11_bounds 73 = .ok (.if_icmp .eq 32, 3) := by decide +kernel
theorem dX11_bounds_76 : decode cX11_bounds 76 = .ok (.iload_n 3, 1) := by decide +kernel
theorem dX11_bounds_77 : decode cX11_bounds 77 = .ok (.ifCond .ne 17, 3) := by decide +kernel
theorem dX11_bounds_80 : decode cX11_bounds 80 = .ok (.aload_n 0, 1) := by decide +kernel
theorem dX11_bounds_81 : decode cX11_bounds 81 = .ok (.getfield 46, 3) := by decide +kernel
theorem dX11_bounds_84 : decode cX11_bounds 84 = .ok (.iload_n 1, 1) := by decide +kernel
theorem dX11_bounds_85 : decode cX11_bounds 85 = .ok (.iaload, 1) := by decide +kernel
theorem dX11_bounds_86 : decode cX11_bounds 86 = .ok (.iload 4, 2) := by decide +kernel
theorem dX11_bounds_88 : decode cX11_bounds 88 = .ok (.if_icmp .ge 21, 3) := by decide +kernel
theorem dX11_bounds_91 : decode cX11_bounds 91 = .ok (.goto 14, 3) := by decide +kernel
theorem dX11_bounds_94 : decode cX11_bounds 94 = .ok (.aload_n 0, 1) := by decide +kernel
theorem dX11_bounds_95 : decode cX11_bounds 95 = .ok (.getfield 46, 3) := by decide +kernel
theorem dX11_bounds_98 : decode cX11_bounds 98 = .ok (.iload_n 1, 1) := by decide +kernel
theorem dX11_bounds_99 : decode cX11_bounds 99 = .ok (.iaload, 1) := by decide +kernel
theorem dX11_bounds_100 : decode cX11_bounds 100 = .ok (.iload 4, 2) := by decide +kernel
theorem dX11_bounds_102 : decode cX11_bounds 102 = .ok (.if_icmp .le 7, 3) := by decide +kernel
theorem dX11_bounds_105 : decode cX11_bounds 105 = .ok (.iconst 1, 1) := by decide +kernel
theorem dX11_bounds_106 : decode cX11_bounds 106 = .ok (.goto 4, 3) := by decide +kernel
theorem dX11_bounds_109 : decode cX11_bounds 109 = .ok (.iconst 0, 1) := by decide +kernel
theorem dX11_bounds_110 : decode cX11_bounds 110 = .ok (.istore 6, 2) := by decide +kernel
theorem dX11_bounds_112 : decode cX11_bounds 112 = .ok (.iload 6, 2) := by decide +kernel
theorem dX11_bounds_114 : decode cX11_bounds 114 = .ok (.ifCond .eq 12, 3) := by decide +kernel
theorem dX11_bounds_117 : decode cX11_bounds 117 = .ok (.aload_n 0, 1) := by decide +kernel
theorem dX11_bounds_118 : decode cX11_bounds 118 = .ok (.getfield 46, 3) := by decide +kernel
theorem dX11_bounds_121 : decode cX11_bounds 121 = .ok (.iload_n 1, 1) := by decide +kernel
theorem dX11_bounds_122 : decode cX11_bounds 122 = .ok (.iaload, 1) := by decide +kernel
theorem dX11_bounds_123 : decode cX11_bounds 123 = .ok (.goto 5, 3) := by decide +kernel
theorem dX11_bounds_126 : decode cX11_bounds 126 = .ok (.iload 4, 2) := by decide +kernel
theorem dX11_bounds_128 : decode cX11_bounds 128 = .ok (.istore 4, 2) := by decide +kernel
theorem dX11_bounds_130 : decode cX11_bounds 130 = .ok (.iinc 5 1, 3) := by decide +kernel
theorem dX11_bounds_133 : decode cX11_bounds 133 = .ok (.goto (-88), 3) := by decide +kernel
theorem dX11_bounds_136 : decode cX11_bounds 136 = .ok (.iload 4, 2) := by decide +kernel
theorem dX11_bounds_138 : decode cX11_bounds 138 = .ok (.ireturn, 1) := by decide +kernel
theorem dX11_safe_0 : decode cX11_safe 0 = .ok (.aload_n 0, 1) := by decide +kernel
theorem dX11_safe_1 : decode cX11_safe 1 = .ok (.invokevirtual 264, 3) := by decide +kernel
theorem dX11_safe_4 : decode cX11_safe 4 = .ok (.aload_n 0, 1) := by decide +kernel
theorem dX11_safe_5 : decode cX11_safe 5 = .ok (.invokevirtual 267, 3) := by decide +kernel
theorem dX11_safe_8 : decode cX11_safe 8 = .ok (.aload_n 0, 1) := by decide +kernel
theorem dX11_safe_9 : decode cX11_safe 9 = .ok (.iconst 0, 1) := by decide +kernel
theorem dX11_safe_10 : decode cX11_safe 10 = .ok (.invokevirtual 276, 3) := by decide +kernel
theorem dX11_safe_13 : decode cX11_safe 13 = .ok (.ifCond .eq 7, 3) := by decide +kernel
theorem dX11_safe_16 : decode cX11_safe 16 = .ok (.iconst 1, 1) := by decide +kernel
theorem dX11_safe_17 : decode cX11_safe 17 = .ok (.goto 4, 3) := by decide +kernel
theorem dX11_safe_20 : decode cX11_safe 20 = .ok (.iconst 0, 1) := by decide +kernel
theorem dX11_safe_21 : decode cX11_safe 21 = .ok (.ireturn, 1) := by decide +kernel
theorem dX11_shortest_0 : decode cX11_shortest 0 = .ok (.iload_n 1, 1) := by decide +kernel
theorem dX11_shortest_1 : decode cX11_shortest 1 = .ok (.iconst 0, 1) := by decide +kernel
theorem dX11_shortest_2 : decode cX11_shortest 2 = .ok (.iconst 3, 1) := by decide +kernel
theorem dX11_shortest_3 : decode cX11_shortest 3 = .ok (.invokestatic 89, 3) := by decide +kernel
theorem dX11_shortest_6 : decode cX11_shortest 6 = .ok (.ifCond .ne 7, 3) := by decide +kernel
theorem dX11_shortest_9 : decode cX11_shortest 9 = .ok (.ldc2_w 219, 3) := by decide +kernel
theorem dX11_shortest_12 : decode cX11_shortest 12 = .ok (.lreturn, 1) := by decide +kernel
theorem dX11_shortest_13 : decode cX11_shortest 13 = .ok (.iconst 0, 1) := by decide +kernel
theorem dX11_shortest_14 : decode cX11_shortest 14 = .ok (.istore_n 2, 1) := by decide +kernel
theorem dX11_shortest_15 : decode cX11_shortest 15 = .ok (.iload_n 2, 1) := by decide +kernel
theorem dX11_shortest_16 : decode cX11_shortest 16 = .ok (.aload_n 0, 1) := by decide +kernel
theorem dX11_shortest_17 : decode cX11_shortest 17 = .ok (.getfield 104, 3) := by decide +kernel
theorem dX11_shortest_20 : decode cX11_shortest 20 = .ok (.if_icmp .gt 119, 3) := by decide +kernel
theorem dX11_shortest_23 : decode cX11_shortest 23 = .ok (.aload_n 0, 1) := by decide +kernel
theorem dX11_shortest_24 : decode cX11_shortest 24 = .ok (.iload_n 2, 1) := by decide +kernel
theorem dX11_shortest_25 : decode cX11_shortest 25 = .ok (.invokevirtual 273, 3) := by decide +kernel
theorem dX11_shortest_28 : decode cX11_shortest 28 = .ok (.aload_n 0, 1) := by decide +kernel
theorem dX11_shortest_29 : decode cX11_shortest 29 = .ok (.iload_n 2, 1) := by decide +kernel
theorem dX11_shortest_30 : decode cX11_shortest 30 = .ok (.invokevirtual 254, 3) := by decide +kernel
theorem dX11_shortest_33 : decode cX11_shortest 33 = .ok (.istore_n 3, 1) := by decide +kernel
theorem dX11_shortest_34 : decode cX11_shortest 34 = .ok (.iconst 0, 1) := by decide +kernel
theorem dX11_shortest_35 : decode cX11_shortest 35 = .ok (.istore 4, 2) := by decide +kernel
theorem dX11_shortest_37 : decode cX11_shortest 37 = .ok (.iload 4, 2) := by decide +kernel
theorem dX11_shortest_39 : decode cX11_shortest 39 = .ok (.aload_n 0, 1) := by decide +kernel
theorem dX11_shortest_40 : decode cX11_shortest 40 = .ok (.getfield 270, 3) := by decide +kernel
theorem dX11_shortest_43 : decode cX11_shortest 43 = .ok (.if_icmp .ge 90, 3) := by decide +kernel
theorem dX11_shortest_46 : decode cX11_shortest 46 = .ok (.aload_n 0, 1) := by decide +kernel
theorem dX11_shortest_47 : decode cX11_shortest 47 = .ok (.aload_n 0, 1) := by decide +kernel
theorem dX11_shortest_48 : decode cX11_shortest 48 = .ok (.getfield 86, 3) := by decide +kernel
theorem dX11_shortest_51 : decode cX11_shortest 51 = .ok (.iload 4, 2) := by decide +kernel
theorem dX11_shortest_53 : decode cX11_shortest 53 = .ok (.iaload, 1) := by decide +kernel
theorem dX11_shortest_54 : decode cX11_shortest 54 = .ok (.iload_n 3, 1) := by decide +kernel
theorem dX11_shortest_55 : decode cX11_shortest 55 = .ok (.invokevirtual 260, 3) := by decide +kernel
theorem dX11_shortest_58 : decode cX11_shortest 58 = .ok (.ifCond .eq 69, 3) := by decide +kernel
theorem dX11_shortest_61 : decode cX11_shortest 61 = .ok (.iload_n 1, 1) := by decide +kernel
theorem dX11_shortest_62 : decode cX11_shortest 62 = .ok (.ifCond .ne 8, 3) := by decide +kernel
theorem dX11_shortest_65 : decode cX11_shortest 65 = .ok (.iload_n 2, 1) := by decide +kernel
theorem dX11_shortest_66 : decode cX11_shortest 66 = .ok (.i2l, 1) := by decide +kernel
theorem dX11_shortest_67 : decode cX11_shortest 67 = .ok (.goto 59, 3) := by decide +kernel
theorem dX11_shortest_70 : decode cX11_shortest 70 = .ok (.iload_n 1, 1) := by decide +kernel
theorem dX11_shortest_71 : decode cX11_shortest 71 = .ok (.iconst 1, 1) := by decide +kernel
theorem dX11_shortest_72 : decode cX11_shortest 72 = .ok (.if_icmp .ne 18, 3) := by decide +kernel
theorem dX11_shortest_75 : decode cX11_shortest 75 = .ok (.aload_n 0, 1) := by decide +kernel
theorem dX11_shortest_76 : decode cX11_shortest 76 = .ok (.getfield 58, 3) := by decide +kernel
theorem dX11_shortest_79 : decode cX11_shortest 79 = .ok (.aload_n 0, 1) := by decide +kernel
theorem dX11_shortest_80 : decode cX11_shortest 80 = .ok (.getfield 86, 3) := by decide +kernel
theorem dX11_shortest_83 : decode cX11_shortest 83 = .ok (.iload 4, 2) := by decide +kernel
theorem dX11_shortest_85 : decode cX11_shortest 85 = .ok (.iaload, 1) := by decide +kernel
theorem dX11_shortest_86 : decode cX11_shortest 86 = .ok (.laload, 1) := by decide +kernel
theorem dX11_shortest_87 : decode cX11_shortest 87 = .ok (.goto 39, 3) := by decide +kernel
theorem dX11_shortest_90 : decode cX11_shortest 90 = .ok (.iload_n 1, 1) := by decide +kernel
theorem dX11_shortest_91 : decode cX11_shortest 91 = .ok (.iconst 2, 1) := by decide +kernel
theorem dX11_shortest_92 : decode cX11_shortest 92 = .ok (.if_icmp .ne 22, 3) := by decide +kernel
theorem dX11_shortest_95 : decode cX11_shortest 95 = .ok (.aload_n 0, 1) := by decide +kernel
theorem dX11_shortest_96 : decode cX11_shortest 96 = .ok (.aload_n 0, 1) := by decide +kernel
theorem dX11_shortest_97 : decode cX11_shortest 97 = .ok (.getfield 58, 3) := by decide +kernel
theorem dX11_shortest_100 : decode cX11_shortest 100 = .ok (.aload_n 0, 1) := by decide +kernel
theorem dX11_shortest_101 : decode cX11_shortest 101 = .ok (.getfield 86, 3) := by decide +kernel
theorem dX11_shortest_104 : decode cX11_shortest 104 = .ok (.iload 4, 2) := by decide +kernel
theorem dX11_shortest_106 : decode cX11_shortest 106 = .ok (.iaload, 1) := by decide +kernel
theorem dX11_shortest_107 : decode cX11_shortest 107 = .ok (.laload, 1) := by decide +kernel
theorem dX11_shortest_108 : decode cX11_shortest 108 = .ok (.invokevirtual 279, 3) := by decide +kernel
theorem dX11_shortest_111 : decode cX11_shortest 111 = .ok (.goto 15, 3) := by decide +kernel
theorem dX11_shortest_114 : decode cX11_shortest 114 = .ok (.aload_n 0, 1) := by decide +kernel
theorem dX11_shortest_115 : decode cX11_shortest 115 = .ok (.getfield 62, 3) := by decide +kernel
theorem dX11_shortest_118 : decode cX11_shortest 118 = .ok (.aload_n 0, 1) := by decide +kernel
theorem dX11_shortest_119 : decode cX11_shortest 119 = .ok (.getfield 86, 3) := by decide +kernel
theorem dX11_shortest_122 : decode cX11_shortest 122 = .ok (.iload 4, 2) := by decide +kernel
theorem dX11_shortest_124 : decode cX11_shortest 124 = .ok (.iaload, 1) := by decide +kernel
theorem dX11_shortest_125 : decode cX11_shortest 125 = .ok (.laload, 1) := by decide +kernel
theorem dX11_shortest_126 : decode cX11_shortest 126 = .ok (.lreturn, 1) := by decide +kernel
theorem dX11_shortest_127 : decode cX11_shortest 127 = .ok (.iinc 4 1, 3) := by decide +kernel
theorem dX11_shortest_130 : decode cX11_shortest 130 = .ok (.goto (-93), 3) := by decide +kernel
theorem dX11_shortest_133 : decode cX11_shortest 133 = .ok (.iinc 2 1, 3) := by decide +kernel
theorem dX11_shortest_136 : decode cX11_shortest 136 = .ok (.goto (-121), 3) := by decide +kernel
theorem dX11_shortest_139 : decode cX11_shortest 139 = .ok (.ldc2_w 221, 3) := by decide +kernel
theorem dX11_shortest_142 : decode cX11_shortest 142 = .ok (.lreturn, 1) := by decide +kernel
theorem dX11_leastSet_0 : decode cX11_leastSet 0 = .ok (.ldc2_w 221, 3) := by decide +kernel
theorem dX11_leastSet_3 : decode cX11_leastSet 3 = .ok (.lstore_n 3, 1) := by decide +kernel
theorem dX11_leastSet_4 : decode cX11_leastSet 4 = .ok (.iconst 0, 1) := by decide +kernel
theorem dX11_leastSet_5 : decode cX11_leastSet 5 = .ok (.istore 5, 2) := by decide +kernel
theorem dX11_leastSet_7 : decode cX11_leastSet 7 = .ok (.iload 5, 2) := by decide +kernel
theorem dX11_leastSet_9 : decode cX11_leastSet 9 = .ok (.aload_n 0, 1) := by decide +kernel
theorem dX11_leastSet_10 : decode cX11_leastSet 10 = .ok (.getfield 248, 3) := by decide +kernel
theorem dX11_leastSet_13 : decode cX11_leastSet 13 = .ok (.if_icmp .ge 59, 3) := by decide +kernel
theorem dX11_leastSet_16 : decode cX11_leastSet 16 = .ok (.aload_n 0, 1) := by decide +kernel
theorem dX11_leastSet_17 : decode cX11_leastSet 17 = .ok (.aload_n 0, 1) := by decide +kernel
theorem dX11_leastSet_18 : decode cX11_leastSet 18 = .ok (.getfield 83, 3) := by decide +kernel
theorem dX11_leastSet_21 : decode cX11_leastSet 21 = .ok (.iload 5, 2) := by decide +kernel
theorem dX11_leastSet_23 : decode cX11_leastSet 23 = .ok (.iaload, 1) := by decide +kernel
theorem dX11_leastSet_24 : decode cX11_leastSet 24 = .ok (.invokevirtual 229, 3) := by decide +kernel
theorem dX11_leastSet_27 : decode cX11_leastSet 27 = .ok (.istore 6, 2) := by decide +kernel
theorem dX11_leastSet_29 : decode cX11_leastSet 29 = .ok (.aload_n 0, 1) := by decide +kernel
theorem dX11_leastSet_30 : decode cX11_leastSet 30 = .ok (.getfield 58, 3) := by decide +kernel
theorem dX11_leastSet_33 : decode cX11_leastSet 33 = .ok (.aload_n 0, 1) := by decide +kernel
theorem dX11_leastSet_34 : decode cX11_leastSet 34 = .ok (.getfield 83, 3) := by decide +kernel
theorem dX11_leastSet_37 : decode cX11_leastSet 37 = .ok (.iload 5, 2) := by decide +kernel
theorem dX11_leastSet_39 : decode cX11_leastSet 39 = .ok (.iaload, 1) := by decide +kernel
theorem dX11_leastSet_40 : decode cX11_leastSet 40 = .ok (.laload, 1) := by decide +kernel
theorem dX11_leastSet_41 : decode cX11_leastSet 41 = .ok (.lload_n 1, 1) := by decide +kernel
theorem dX11_leastSet_42 : decode cX11_leastSet 42 = .ok (.lcmp, 1) := by decide +kernel
theorem dX11_leastSet_43 : decode cX11_leastSet 43 = .ok (.ifCond .ne 23, 3) := by decide +kernel
theorem dX11_leastSet_46 : decode cX11_leastSet 46 = .ok (.lload_n 3, 1) := by decide +kernel
theorem dX11_leastSet_47 : decode cX11_leastSet 47 = .ok (.ldc2_w 221, 3) := by decide +kernel
theorem dX11_leastSet_50 : decode cX11_leastSet 50 = .ok (.lcmp, 1) := by decide +kernel
theorem dX11_leastSet_51 : decode cX11_leastSet 51 = .ok (.ifCond .eq 11, 3) := by decide +kernel
theorem dX11_leastSet_54 : decode cX11_leastSet 54 = .ok (.iload 6, 2) := by decide +kernel
theorem dX11_leastSet_56 : decode cX11_leastSet 56 = .ok (.i2l, 1) := by decide +kernel
theorem dX11_leastSet_57 : decode cX11_leastSet 57 = .ok (.lload_n 3, 1) := by decide +kernel
theorem dX11_leastSet_58 : decode cX11_leastSet 58 = .ok (.lcmp, 1) := by decide +kernel
theorem dX11_leastSet_59 : decode cX11_leastSet 59 = .ok (.ifCond .ge 7, 3) := by decide +kernel
theorem dX11_leastSet_62 : decode cX11_leastSet 62 = .ok (.iload 6, 2) := by decide +kernel
theorem dX11_leastSet_64 : decode cX11_leastSet 64 = .ok (.i2l, 1) := by decide +kernel
theorem dX11_leastSet_65 : decode cX11_leastSet 65 = .ok (.lstore_n 3, 1) := by decide +kernel
theorem dX11_leastSet_66 : decode cX11_leastSet 66 = .ok (.iinc 5 1, 3) := by decide +kernel
theorem dX11_leastSet_69 : decode cX11_leastSet 69 = .ok (.goto (-62), 3) := by decide +kernel
theorem dX11_leastSet_72 : decode cX11_leastSet 72 = .ok (.lload_n 3, 1) := by decide +kernel
theorem dX11_leastSet_73 : decode cX11_leastSet 73 = .ok (.lreturn, 1) := by decide +kernel
theorem dX11_cost_0 : decode cX11_cost 0 = .ok (.iload_n 1, 1) := by decide +kernel
theorem dX11_cost_1 : decode cX11_cost 1 = .ok (.iconst 0, 1) := by decide +kernel
theorem dX11_cost_2 : decode cX11_cost 2 = .ok (.iconst 1, 1) := by decide +kernel
theorem dX11_cost_3 : decode cX11_cost 3 = .ok (.invokestatic 89, 3) := by decide +kernel
theorem dX11_cost_6 : decode cX11_cost 6 = .ok (.ifCond .ne 6, 3) := by decide +kernel
theorem dX11_cost_9 : decode cX11_cost 9 = .ok (.bipush (-101), 2) := by decide +kernel
theorem dX11_cost_11 : decode cX11_cost 11 = .ok (.ireturn, 1) := by decide +kernel
theorem dX11_cost_12 : decode cX11_cost 12 = .ok (.iload_n 2, 1) := by decide +kernel
theorem dX11_cost_13 : decode cX11_cost 13 = .ok (.iconst 1, 1) := by decide +kernel
theorem dX11_cost_14 : decode cX11_cost 14 = .ok (.iload_n 1, 1) := by decide +kernel
theorem dX11_cost_15 : decode cX11_cost 15 = .ok (.ifCond .ne 8, 3) := by decide +kernel
theorem dX11_cost_18 : decode cX11_cost 18 = .ok (.bipush 9, 2) := by decide +kernel
theorem dX11_cost_20 : decode cX11_cost 20 = .ok (.goto 5, 3) := by decide +kernel
theorem dX11_cost_23 : decode cX11_cost 23 = .ok (.bipush 99, 2) := by decide +kernel
theorem dX11_cost_25 : decode cX11_cost 25 = .ok (.invokestatic 89, 3) := by decide +kernel
theorem dX11_cost_28 : decode cX11_cost 28 = .ok (.ifCond .ne 6, 3) := by decide +kernel
theorem dX11_cost_31 : decode cX11_cost 31 = .ok (.bipush (-102), 2) := by decide +kernel
theorem dX11_cost_33 : decode cX11_cost 33 = .ok (.ireturn, 1) := by decide +kernel
theorem dX11_cost_34 : decode cX11_cost 34 = .ok (.iload_n 1, 1) := by decide +kernel
theorem dX11_cost_35 : decode cX11_cost 35 = .ok (.ifCond .ne 10, 3) := by decide +kernel
theorem dX11_cost_38 : decode cX11_cost 38 = .ok (.aload_n 0, 1) := by decide +kernel
theorem dX11_cost_39 : decode cX11_cost 39 = .ok (.getfield 39, 3) := by decide +kernel
theorem dX11_cost_42 : decode cX11_cost 42 = .ok (.goto 7, 3) := by decide +kernel
theorem dX11_cost_45 : decode cX11_cost 45 = .ok (.aload_n 0, 1) := by decide +kernel
theorem dX11_cost_46 : decode cX11_cost 46 = .ok (.getfield 43, 3) := by decide +kernel
theorem dX11_cost_49 : decode cX11_cost 49 = .ok (.istore_n 3, 1) := by decide +kernel
theorem dX11_cost_50 : decode cX11_cost 50 = .ok (.aload_n 0, 1) := by decide +kernel
theorem dX11_cost_51 : decode cX11_cost 51 = .ok (.iload_n 1, 1) := by decide +kernel
theorem dX11_cost_52 : decode cX11_cost 52 = .ok (.ifCond .ne 7, 3) := by decide +kernel
theorem dX11_cost_55 : decode cX11_cost 55 = .ok (.iload_n 2, 1) := by decide +kernel
theorem dX11_cost_56 : decode cX11_cost 56 = .ok (.goto 7, 3) := by decide +kernel
theorem dX11_cost_59 : decode cX11_cost 59 = .ok (.aload_n 0, 1) := by decide +kernel
theorem dX11_cost_60 : decode cX11_cost 60 = .ok (.getfield 39, 3) := by decide +kernel
theorem dX11_cost_63 : decode cX11_cost 63 = .ok (.putfield 39, 3) := by decide +kernel
theorem dX11_cost_66 : decode cX11_cost 66 = .ok (.aload_n 0, 1) := by decide +kernel
theorem dX11_cost_67 : decode cX11_cost 67 = .ok (.iload_n 1, 1) := by decide +kernel
theorem dX11_cost_68 : decode cX11_cost 68 = .ok (.iconst 1, 1) := by decide +kernel
theorem dX11_cost_69 : decode cX11_cost 69 = .ok (.if_icmp .ne 7, 3) := by decide +kernel
theorem dX11_cost_72 : decode cX11_cost 72 = .ok (.iload_n 2, 1) := by decide +kernel
theorem dX11_cost_73 : decode cX11_cost 73 = .ok (.goto 7, 3) := by decide +kernel
theorem dX11_cost_76 : decode cX11_cost 76 = .ok (.aload_n 0, 1) := by decide +kernel
theorem dX11_cost_77 : decode cX11_cost 77 = .ok (.getfield 43, 3) := by decide +kernel
theorem dX11_cost_80 : decode cX11_cost 80 = .ok (.putfield 43, 3) := by decide +kernel
theorem dX11_cost_83 : decode cX11_cost 83 = .ok (.iload_n 3, 1) := by decide +kernel
theorem dX11_cost_84 : decode cX11_cost 84 = .ok (.ireturn, 1) := by decide +kernel
theorem dX11_putBy_0 : decode cX11_putBy 0 = .ok (.iload_n 1, 1) := by decide +kernel
theorem dX11_putBy_1 : decode cX11_putBy 1 = .ok (.istore_n 2, 1) := by decide +kernel
theorem dX11_putBy_2 : decode cX11_putBy 2 = .ok (.aload_n 0, 1) := by decide +kernel
theorem dX11_putBy_3 : decode cX11_putBy 3 = .ok (.invokevirtual 267, 3) := by decide +kernel
theorem dX11_putBy_6 : decode cX11_putBy 6 = .ok (.aload_n 0, 1) := by decide +kernel
theorem dX11_putBy_7 : decode cX11_putBy 7 = .ok (.getfield 104, 3) := by decide +kernel
theorem dX11_putBy_10 : decode cX11_putBy 10 = .ok (.iconst 2, 1) := by decide +kernel
theorem dX11_putBy_11 : decode cX11_putBy 11 = .ok (.isub, 1) := by decide +kernel
theorem dX11_putBy_12 : decode cX11_putBy 12 = .ok (.istore_n 3, 1) := by decide +kernel
theorem dX11_putBy_13 : decode cX11_putBy 13 = .ok (.iload_n 3, 1) := by decide +kernel
theorem dX11_putBy_14 : decode cX11_putBy 14 = .ok (.ifCond .lt 22, 3) := by decide +kernel
theorem dX11_putBy_17 : decode cX11_putBy 17 = .ok (.aload_n 0, 1) := by decide +kernel
theorem dX11_putBy_18 : decode cX11_putBy 18 = .ok (.getfield 77, 3) := by decide +kernel
theorem dX11_putBy_21 : decode cX11_putBy 21 = .ok (.iload_n 3, 1) := by decide +kernel
theorem dX11_putBy_22 : decode cX11_putBy 22 = .ok (.iload_n 2, 1) := by decide +kernel
theorem dX11_putBy_23 : decode cX11_putBy 23 = .ok (.iconst 3, 1) := by decide +kernel
theorem dX11_putBy_24 : decode cX11_putBy 24 = .ok (.irem, 1) := by decide +kernel
theorem dX11_putBy_25 : decode cX11_putBy 25 = .ok (.iastore, 1) := by decide +kernel
theorem dX11_putBy_26 : decode cX11_putBy 26 = .ok (.iload_n 2, 1) := by decide +kernel
theorem dX11_putBy_27 : decode cX11_putBy 27 = .ok (.iconst 3, 1) := by decide +kernel
theorem dX11_putBy_28 : decode cX11_putBy 28 = .ok (.idiv, 1) := by decide +kernel
theorem dX11_putBy_29 : decode cX11_putBy 29 = .ok (.istore_n 2, 1) := by decide +kernel
theorem dX11_putBy_30 : decode cX11_putBy 30 = .ok (.iinc 3 (-1), 3) := by decide +kernel
theorem dX11_putBy_33 : decode cX11_putBy 33 = .ok (.goto (-20), 3) := by decide +kernel
theorem dX11_putBy_36 : decode cX11_putBy 36 = .ok (.return_, 1) := by decide +kernel
theorem dX11_fewest_0 : decode cX11_fewest 0 = .ok (.iload_n 1, 1) := by decide +kernel
theorem dX11_fewest_1 : decode cX11_fewest 1 = .ok (.iconst 0, 1) := by decide +kernel
theorem dX11_fewest_2 : decode cX11_fewest 2 = .ok (.iconst 1, 1) := by decide +kernel
theorem dX11_fewest_3 : decode cX11_fewest 3 = .ok (.invokestatic 89, 3) := by decide +kernel
theorem dX11_fewest_6 : decode cX11_fewest 6 = .ok (.ifCond .ne 17, 3) := by decide +kernel
theorem dX11_fewest_9 : decode cX11_fewest 9 = .ok (.iload_n 1, 1) := by decide +kernel
theorem dX11_fewest_10 : decode cX11_fewest 10 = .ok (.bipush 10, 2) := by decide +kernel
theorem dX11_fewest_12 : decode cX11_fewest 12 = .ok (.bipush 16, 2) := by decide +kernel
theorem dX11_fewest_14 : decode cX11_fewest 14 = .ok (.invokestatic 89, 3) := by decide +kernel
theorem dX11_fewest_17 : decode cX11_fewest 17 = .ok (.ifCond .ne 6, 3) := by decide +kernel
theorem dX11_fewest_20 : decode cX11_fewest 20 = .ok (.bipush (-102), 2) := by decide +kernel
theorem dX11_fewest_22 : decode cX11_fewest 22 = .ok (.ireturn, 1) := by decide +kernel
theorem dX11_fewest_23 : decode cX11_fewest 23 = .ok (.aload_n 0, 1) := by decide +kernel
theorem dX11_fewest_24 : decode cX11_fewest 24 = .ok (.getfield 104, 3) := by decide +kernel
theorem dX11_fewest_27 : decode cX11_fewest 27 = .ok (.bipush 8, 2) := by decide +kernel
theorem dX11_fewest_29 : decode cX11_fewest 29 = .ok (.if_icmp .gt 12, 3) := by decide +kernel
theorem dX11_fewest_32 : decode cX11_fewest 32 = .ok (.aload_n 0, 1) := by decide +kernel
theorem dX11_fewest_33 : decode cX11_fewest 33 = .ok (.getfield 282, 3) := by decide +kernel
theorem dX11_fewest_36 : decode cX11_fewest 36 = .ok (.bipush 12, 2) := by decide +kernel
theorem dX11_fewest_38 : decode cX11_fewest 38 = .ok (.if_icmp .ne 6, 3) := by decide +kernel
theorem dX11_fewest_41 : decode cX11_fewest 41 = .ok (.bipush (-103), 2) := by decide +kernel
theorem dX11_fewest_43 : decode cX11_fewest 43 = .ok (.ireturn, 1) := by decide +kernel
theorem dX11_fewest_44 : decode cX11_fewest 44 = .ok (.aload_n 0, 1) := by decide +kernel
theorem dX11_fewest_45 : decode cX11_fewest 45 = .ok (.dup, 1) := by decide +kernel
theorem dX11_fewest_46 : decode cX11_fewest 46 = .ok (.getfield 282, 3) := by decide +kernel
theorem dX11_fewest_49 : decode cX11_fewest 49 = .ok (.iconst 1, 1) := by decide +kernel
theorem dX11_fewest_50 : decode cX11_fewest 50 = .ok (.iadd, 1) := by decide +kernel
theorem dX11_fewest_51 : decode cX11_fewest 51 = .ok (.putfield 282, 3) := by decide +kernel
theorem dX11_fewest_54 : decode cX11_fewest 54 = .ok (.aload_n 0, 1) := by decide +kernel
theorem dX11_fewest_55 : decode cX11_fewest 55 = .ok (.invokevirtual 264, 3) := by decide +kernel
theorem dX11_fewest_58 : decode cX11_fewest 58 = .ok (.iconst 1, 1) := by decide +kernel
theorem dX11_fewest_59 : decode cX11_fewest 59 = .ok (.istore_n 2, 1) := by decide +kernel
theorem dX11_fewest_60 : decode cX11_fewest 60 = .ok (.iconst 0, 1) := by decide +kernel
theorem dX11_fewest_61 : decode cX11_fewest 61 = .ok (.istore_n 3, 1) := by decide +kernel
theorem dX11_fewest_62 : decode cX11_fewest 62 = .ok (.iload_n 3, 1) := by decide +kernel
theorem dX11_fewest_63 : decode cX11_fewest 63 = .ok (.aload_n 0, 1) := by decide +kernel
theorem dX11_fewest_64 : decode cX11_fewest 64 = .ok (.getfield 104, 3) := by decide +kernel
theorem dX11_fewest_67 : decode cX11_fewest 67 = .ok (.iconst 1, 1) := by decide +kernel
theorem dX11_fewest_68 : decode cX11_fewest 68 = .ok (.isub, 1) := by decide +kernel
theorem dX11_fewest_69 : decode cX11_fewest 69 = .ok (.if_icmp .ge 13, 3) := by decide +kernel
theorem dX11_fewest_72 : decode cX11_fewest 72 = .ok (.iload_n 2, 1) := by decide +kernel
theorem dX11_fewest_73 : decode cX11_fewest 73 = .ok (.iconst 3, 1) := by decide +kernel
theorem dX11_fewest_74 : decode cX11_fewest 74 = .ok (.imul, 1) := by decide +kernel
theorem dX11_fewest_75 : decode cX11_fewest 75 = .ok (.istore_n 2, 1) := by decide +kernel
theorem dX11_fewest_76 : decode cX11_fewest 76 = .ok (.iinc 3 1, 3) := by decide +kernel
theorem dX11_fewest_79 : decode cX11_fewest 79 = .ok (.goto (-17), 3) := by decide +kernel
theorem dX11_fewest_82 : decode cX11_fewest 82 = .ok (.iconst (-1), 1) := by decide +kernel
theorem dX11_fewest_83 : decode cX11_fewest 83 = .ok (.istore_n 3, 1) := by decide +kernel
theorem dX11_fewest_84 : decode cX11_fewest 84 = .ok (.iconst 0, 1) := by decide +kernel
theorem dX11_fewest_85 : decode cX11_fewest 85 = .ok (.istore 4, 2) := by decide +kernel
theorem dX11_fewest_87 : decode cX11_fewest 87 = .ok (.iconst 0, 1) := by decide +kernel
theorem dX11_fewest_88 : decode cX11_fewest 88 = .ok (.istore 5, 2) := by decide +kernel
theorem dX11_fewest_90 : decode cX11_fewest 90 = .ok (.iconst 0, 1) := by decide +kernel
theorem dX11_fewest_91 : decode cX11_fewest 91 = .ok (.istore 6, 2) := by decide +kernel
theorem dX11_fewest_93 : decode cX11_fewest 93 = .ok (.iload 6, 2) := by decide +kernel
theorem dX11_fewest_95 : decode cX11_fewest 95 = .ok (.iload_n 2, 1) := by decide +kernel
theorem dX11_fewest_96 : decode cX11_fewest 96 = .ok (.if_icmp .ge 160, 3) := by decide +kernel
theorem dX11_fewest_99 : decode cX11_fewest 99 = .ok (.aload_n 0, 1) := by decide +kernel
theorem dX11_fewest_100 : decode cX11_fewest 100 = .ok (.iload 6, 2) := by decide +kernel
theorem dX11_fewest_102 : decode cX11_fewest 102 = .ok (.invokevirtual 285, 3) := by decide +kernel
theorem dX11_fewest_105 : decode cX11_fewest 105 = .ok (.iconst 0, 1) := by decide +kernel
theorem dX11_fewest_106 : decode cX11_fewest 106 = .ok (.istore 7, 2) := by decide +kernel
theorem dX11_fewest_108 : decode cX11_fewest 108 = .ok (.iconst 0, 1) := by decide +kernel
theorem dX11_fewest_109 : decode cX11_fewest 109 = .ok (.istore 8, 2) := by decide +kernel
theorem dX11_fewest_111 : decode cX11_fewest 111 = .ok (.iconst 0, 1) := by decide +kernel
theorem dX11_fewest_112 : decode cX11_fewest 112 = .ok (.istore 9, 2) := by decide +kernel
theorem dX11_fewest_114 : decode cX11_fewest 114 = .ok (.iload 9, 2) := by decide +kernel
theorem dX11_fewest_116 : decode cX11_fewest 116 = .ok (.aload_n 0, 1) := by decide +kernel
theorem dX11_fewest_117 : decode cX11_fewest 117 = .ok (.getfield 104, 3) := by decide +kernel
theorem dX11_fewest_120 : decode cX11_fewest 120 = .ok (.iconst 1, 1) := by decide +kernel
theorem dX11_fewest_121 : decode cX11_fewest 121 = .ok (.isub, 1) := by decide +kernel
theorem dX11_fewest_122 : decode cX11_fewest 122 = .ok (.if_icmp .ge 71, 3) := by decide +kernel
theorem dX11_fewest_125 : decode cX11_fewest 125 = .ok (.iload 7, 2) := by decide +kernel
theorem dX11_fewest_127 : decode cX11_fewest 127 = .ok (.aload_n 0, 1) := by decide +kernel
theorem dX11_fewest_128 : decode cX11_fewest 128 = .ok (.getfield 77, 3) := by decide +kernel
theorem dX11_fewest_131 : decode cX11_fewest 131 = .ok (.iload 9, 2) := by decide +kernel
theorem dX11_fewest_133 : decode cX11_fewest 133 = .ok (.iaload, 1) := by decide +kernel
theorem dX11_fewest_134 : decode cX11_fewest 134 = .ok (.iconst 1, 1) := by decide +kernel
theorem dX11_fewest_135 : decode cX11_fewest 135 = .ok (.if_icmp .ne 10, 3) := by decide +kernel
theorem dX11_fewest_138 : decode cX11_fewest 138 = .ok (.aload_n 0, 1) := by decide +kernel
theorem dX11_fewest_139 : decode cX11_fewest 139 = .ok (.getfield 39, 3) := by decide +kernel
theorem dX11_fewest_142 : decode cX11_fewest 142 = .ok (.goto 22, 3) := by decide +kernel
theorem dX11_fewest_145 : decode cX11_fewest 145 = .ok (.aload_n 0, 1) := by decide +kernel
theorem dX11_fewest_146 : decode cX11_fewest 146 = .ok (.getfield 77, 3) := by decide +kernel
theorem dX11_fewest_149 : decode cX11_fewest 149 = .ok (.iload 9, 2) := by decide +kernel
theorem dX11_fewest_151 : decode cX11_fewest 151 = .ok (.iaload, 1) := by decide +kernel
theorem dX11_fewest_152 : decode cX11_fewest 152 = .ok (.iconst 2, 1) := by decide +kernel
theorem dX11_fewest_153 : decode cX11_fewest 153 = .ok (.if_icmp .ne 10, 3) := by decide +kernel
theorem dX11_fewest_156 : decode cX11_fewest 156 = .ok (.aload_n 0, 1) := by decide +kernel
theorem dX11_fewest_157 : decode cX11_fewest 157 = .ok (.getfield 43, 3) := by decide +kernel
theorem dX11_fewest_160 : decode cX11_fewest 160 = .ok (.goto 4, 3) := by decide +kernel
theorem dX11_fewest_163 : decode cX11_fewest 163 = .ok (.iconst 0, 1) := by decide +kernel
theorem dX11_fewest_164 : decode cX11_fewest 164 = .ok (.iadd, 1) := by decide +kernel
theorem dX11_fewest_165 : decode cX11_fewest 165 = .ok (.istore 7, 2) := by decide +kernel
theorem dX11_fewest_167 : decode cX11_fewest 167 = .ok (.iload 8, 2) := by decide +kernel
theorem dX11_fewest_169 : decode cX11_fewest 169 = .ok (.aload_n 0, 1) := by decide +kernel
theorem dX11_fewest_170 : decode cX11_fewest 170 = .ok (.getfield 77, 3) := by decide +kernel
theorem dX11_fewest_173 : decode cX11_fewest 173 = .ok (.iload 9, 2) := by decide +kernel
theorem dX11_fewest_175 : decode cX11_fewest 175 = .ok (.iaload, 1) := by decide +kernel
theorem dX11_fewest_176 : decode cX11_fewest 176 = .ok (.ifCond .le 7, 3) := by decide +kernel
theorem dX11_fewest_179 : decode cX11_fewest 179 = .ok (.iconst 1, 1) := by decide +kernel
theorem dX11_fewest_180 : decode cX11_fewest 180 = .ok (.goto 4, 3) := by decide +kernel
theorem dX11_fewest_183 : decode cX11_fewest 183 = .ok (.iconst 0, 1) := by decide +kernel
theorem dX11_fewest_184 : decode cX11_fewest 184 = .ok (.iadd, 1) := by decide +kernel
theorem dX11_fewest_185 : decode cX11_fewest 185 = .ok (.istore 8, 2) := by decide +kernel
theorem dX11_fewest_187 : decode cX11_fewest 187 = .ok (.iinc 9 1, 3) := by decide +kernel
theorem dX11_fewest_190 : decode cX11_fewest 190 = .ok (.goto (-76), 3) := by decide +kernel
theorem dX11_fewest_193 : decode cX11_fewest 193 = .ok (.iload_n 3, 1) := by decide +kernel
theorem dX11_fewest_194 : decode cX11_fewest 194 = .ok (.iconst (-1), 1) := by decide +kernel
theorem dX11_fewest_195 : decode cX11_fewest 195 = .ok (.if_icmp .eq 24, 3) := by decide +kernel
theorem dX11_fewest_198 : decode cX11_fewest 198 = .ok (.iload 7, 2) := by decide +kernel
theorem dX11_fewest_200 : decode cX11_fewest 200 = .ok (.iload 4, 2) := by decide +kernel
theorem dX11_fewest_202 : decode cX11_fewest 202 = .ok (.if_icmp .lt 17, 3) := by decide +kernel
theorem dX11_fewest_205 : decode cX11_fewest 205 = .ok (.iload 7, 2) := by decide +kernel
theorem dX11_fewest_207 : decode cX11_fewest 207 = .ok (.iload 4, 2) := by decide +kernel
theorem dX11_fewest_209 : decode cX11_fewest 209 = .ok (.if_icmp .ne 14, 3) := by decide +kernel
theorem dX11_fewest_212 : decode cX11_fewest 212 = .ok (.iload 8, 2) := by decide +kernel
theorem dX11_fewest_214 : decode cX11_fewest 214 = .ok (.iload 5, 2) := by decide +kernel
theorem dX11_fewest_216 : decode cX11_fewest 216 = .ok (.if_icmp .ge 7, 3) := by decide +kernel
theorem dX11_fewest_219 : decode cX11_fewest 219 = .ok (.iconst 1, 1) := by decide +kernel
theorem dX11_fewest_220 : decode cX11_fewest 220 = .ok (.goto 4, 3) := by decide +kernel
theorem dX11_fewest_223 : decode cX11_fewest 223 = .ok (.iconst 0, 1) := by decide +kernel
theorem dX11_fewest_224 : decode cX11_fewest 224 = .ok (.istore 9, 2) := by decide +kernel
theorem dX11_fewest_226 : decode cX11_fewest 226 = .ok (.iload 9, 2) := by decide +kernel
theorem dX11_fewest_228 : decode cX11_fewest 228 = .ok (.ifCond .eq 22, 3) := by decide +kernel
theorem dX11_fewest_231 : decode cX11_fewest 231 = .ok (.aload_n 0, 1) := by decide +kernel
theorem dX11_fewest_232 : decode cX11_fewest 232 = .ok (.iconst 0, 1) := by decide +kernel
theorem dX11_fewest_233 : decode cX11_fewest 233 = .ok (.invokevirtual 276, 3) := by decide +kernel
theorem dX11_fewest_236 : decode cX11_fewest 236 = .ok (.ifCond .eq 14, 3) := by decide +kernel
theorem dX11_fewest_239 : decode cX11_fewest 239 = .ok (.iload 6, 2) := by decide +kernel
theorem dX11_fewest_241 : decode cX11_fewest 241 = .ok (.istore_n 3, 1) := by decide +kernel
theorem dX11_fewest_242 : decode cX11_fewest 242 = .ok (.iload 7, 2) := by decide +kernel
theorem dX11_fewest_244 : decode cX11_fewest 244 = .ok (.istore 4, 2) := by decide +kernel
theorem dX11_fewest_246 : decode cX11_fewest 246 = .ok (.iload 8, 2) := by decide +kernel
theorem dX11_fewest_248 : decode cX11_fewest 248 = .ok (.istore 5, 2) := by decide +kernel
theorem dX11_fewest_250 : decode cX11_fewest 250 = .ok (.iinc 6 1, 3) := by decide +kernel
theorem dX11_fewest_253 : decode cX11_fewest 253 = .ok (.goto (-160), 3) := by decide +kernel
theorem dX11_fewest_256 : decode cX11_fewest 256 = .ok (.iload_n 3, 1) := by decide +kernel
theorem dX11_fewest_257 : decode cX11_fewest 257 = .ok (.iconst (-1), 1) := by decide +kernel
theorem dX11_fewest_258 : decode cX11_fewest 258 = .ok (.if_icmp .ne 5, 3) := by decide +kernel
theorem dX11_fewest_261 : decode cX11_fewest 261 = .ok (.iconst (-1), 1) := by decide +kernel
theorem dX11_fewest_262 : decode cX11_fewest 262 = .ok (.ireturn, 1) := by decide +kernel
theorem dX11_fewest_263 : decode cX11_fewest 263 = .ok (.aload_n 0, 1) := by decide +kernel
theorem dX11_fewest_264 : decode cX11_fewest 264 = .ok (.iload_n 3, 1) := by decide +kernel
theorem dX11_fewest_265 : decode cX11_fewest 265 = .ok (.invokevirtual 285, 3) := by decide +kernel
theorem dX11_fewest_268 : decode cX11_fewest 268 = .ok (.iload_n 1, 1) := by decide +kernel
theorem dX11_fewest_269 : decode cX11_fewest 269 = .ok (.ifCond .ne 8, 3) := by decide +kernel
theorem dX11_fewest_272 : decode cX11_fewest 272 = .ok (.iload 4, 2) := by decide +kernel
theorem dX11_fewest_274 : decode cX11_fewest 274 = .ok (.goto 39, 3) := by decide +kernel
theorem dX11_fewest_277 : decode cX11_fewest 277 = .ok (.iload_n 1, 1) := by decide +kernel
theorem dX11_fewest_278 : decode cX11_fewest 278 = .ok (.iconst 1, 1) := by decide +kernel
theorem dX11_fewest_279 : decode cX11_fewest 279 = .ok (.if_icmp .ne 8, 3) := by decide +kernel
theorem dX11_fewest_282 : decode cX11_fewest 282 = .ok (.iload 5, 2) := by decide +kernel
theorem dX11_fewest_284 : decode cX11_fewest 284 = .ok (.goto 29, 3) := by decide +kernel
theorem dX11_fewest_287 : decode cX11_fewest 287 = .ok (.iload_n 1, 1) := by decide +kernel
theorem dX11_fewest_288 : decode cX11_fewest 288 = .ok (.bipush 10, 2) := by decide +kernel
theorem dX11_fewest_290 : decode cX11_fewest 290 = .ok (.isub, 1) := by decide +kernel
theorem dX11_fewest_291 : decode cX11_fewest 291 = .ok (.aload_n 0, 1) := by decide +kernel
theorem dX11_fewest_292 : decode cX11_fewest 292 = .ok (.getfield 104, 3) := by decide +kernel
theorem dX11_fewest_295 : decode cX11_fewest 295 = .ok (.iconst 1, 1) := by decide +kernel
theorem dX11_fewest_296 : decode cX11_fewest 296 = .ok (.isub, 1) := by decide +kernel
theorem dX11_fewest_297 : decode cX11_fewest 297 = .ok (.if_icmp .ge 15, 3) := by decide +kernel
theorem dX11_fewest_300 : decode cX11_fewest 300 = .ok (.aload_n 0, 1) := by decide +kernel
theorem dX11_fewest_301 : decode cX11_fewest 301 = .ok (.getfield 77, 3) := by decide +kernel
theorem dX11_fewest_304 : decode cX11_fewest 304 = .ok (.iload_n 1, 1) := by decide +kernel
theorem dX11_fewest_305 : decode cX11_fewest 305 = .ok (.bipush 10, 2) := by decide +kernel
theorem dX11_fewest_307 : decode cX11_fewest 307 = .ok (.isub, 1) := by decide +kernel
theorem dX11_fewest_308 : decode cX11_fewest 308 = .ok (.iaload, 1) := by decide +kernel
theorem dX11_fewest_309 : decode cX11_fewest 309 = .ok (.goto 4, 3) := by decide +kernel
theorem dX11_fewest_312 : decode cX11_fewest 312 = .ok (.iconst (-1), 1) := by decide +kernel
theorem dX11_fewest_313 : decode cX11_fewest 313 = .ok (.ireturn, 1) := by decide +kernel
theorem dX11_needless_0 : decode cX11_needless 0 = .ok (.aload_n 0, 1) := by decide +kernel
theorem dX11_needless_1 : decode cX11_needless 1 = .ok (.invokevirtual 264, 3) := by decide +kernel
theorem dX11_needless_4 : decode cX11_needless 4 = .ok (.aload_n 0, 1) := by decide +kernel
theorem dX11_needless_5 : decode cX11_needless 5 = .ok (.invokevirtual 267, 3) := by decide +kernel
theorem dX11_needless_8 : decode cX11_needless 8 = .ok (.iconst 0, 1) := by decide +kernel
theorem dX11_needless_9 : decode cX11_needless 9 = .ok (.istore_n 1, 1) := by decide +kernel
theorem dX11_needless_10 : decode cX11_needless 10 = .ok (.aload_n 0, 1) := by decide +kernel
theorem dX11_needless_11 : decode cX11_needless 11 = .ok (.invokevirtual 288, 3) := by decide +kernel
theorem dX11_needless_14 : decode cX11_needless 14 = .ok (.lstore_n 2, 1) := by decide +kernel
theorem dX11_needless_15 : decode cX11_needless 15 = .ok (.iconst 0, 1) := by decide +kernel
theorem dX11_needless_16 : decode cX11_needless 16 = .ok (.istore 4, 2) := by decide +kernel
theorem dX11_needless_18 : decode cX11_needless 18 = .ok (.iload 4, 2) := by decide +kernel
theorem dX11_needless_20 : decode cX11_needless 20 = .ok (.aload_n 0, 1) := by decide +kernel
theorem dX11_needless_21 : decode cX11_needless 21 = .ok (.getfield 104, 3) := by decide +kernel
theorem dX11_needless_24 : decode cX11_needless 24 = .ok (.if_icmp .ge 60, 3) := by decide +kernel
theorem dX11_needless_27 : decode cX11_needless 27 = .ok (.aload_n 0, 1) := by decide +kernel
theorem dX11_needless_28 : decode cX11_needless 28 = .ok (.iload 4, 2) := by decide +kernel
theorem dX11_needless_30 : decode cX11_needless 30 = .ok (.invokevirtual 120, 3) := by decide +kernel
theorem dX11_needless_33 : decode cX11_needless 33 = .ok (.ifCond .eq 45, 3) := by decide +kernel
theorem dX11_needless_36 : decode cX11_needless 36 = .ok (.aload_n 0, 1) := by decide +kernel
theorem dX11_needless_37 : decode cX11_needless 37 = .ok (.aload_n 0, 1) := by decide +kernel
theorem dX11_needless_38 : decode cX11_needless 38 = .ok (.aload_n 0, 1) := by decide +kernel
theorem dX11_needless_39 : decode cX11_needless 39 = .ok (.getfield 104, 3) := by decide +kernel
theorem dX11_needless_42 : decode cX11_needless 42 = .ok (.invokevirtual 123, 3) := by decide +kernel
theorem dX11_needless_45 : decode cX11_needless 45 = .ok (.iconst 1, 1) := by decide +kernel
theorem dX11_needless_46 : decode cX11_needless 46 = .ok (.iload 4, 2) := by decide +kernel
theorem dX11_needless_48 : decode cX11_needless 48 = .ok (.ishl, 1) := by decide +kernel
theorem dX11_needless_49 : decode cX11_needless 49 = .ok (.iconst (-1), 1) := by decide +kernel
theorem dX11_needless_50 : decode cX11_needless 50 = .ok (.ixor, 1) := by decide +kernel
theorem dX11_needless_51 : decode cX11_needless 51 = .ok (.iand, 1) := by decide +kernel
theorem dX11_needless_52 : decode cX11_needless 52 = .ok (.invokevirtual 127, 3) := by decide +kernel
theorem dX11_needless_55 : decode cX11_needless 55 = .ok (.lload_n 2, 1) := by decide +kernel
theorem dX11_needless_56 : decode cX11_needless 56 = .ok (.lcmp, 1) := by decide +kernel
theorem dX11_needless_57 : decode cX11_needless 57 = .ok (.ifCond .ne 21, 3) := by decide +kernel
theorem dX11_needless_60 : decode cX11_needless 60 = .ok (.aload_n 0, 1) := by decide +kernel
theorem dX11_needless_61 : decode cX11_needless 61 = .ok (.iconst 1, 1) := by decide +kernel
theorem dX11_needless_62 : decode cX11_needless 62 = .ok (.iload 4, 2) := by decide +kernel
theorem dX11_needless_64 : decode cX11_needless 64 = .ok (.ishl, 1) := by decide +kernel
theorem dX11_needless_65 : decode cX11_needless 65 = .ok (.invokevirtual 276, 3) := by decide +kernel
theorem dX11_needless_68 : decode cX11_needless 68 = .ok (.ifCond .eq 10, 3) := by decide +kernel
theorem dX11_needless_71 : decode cX11_needless 71 = .ok (.iload_n 1, 1) := by decide +kernel
theorem dX11_needless_72 : decode cX11_needless 72 = .ok (.iconst 1, 1) := by decide +kernel
theorem dX11_needless_73 : decode cX11_needless 73 = .ok (.iload 4, 2) := by decide +kernel
theorem dX11_needless_75 : decode cX11_needless 75 = .ok (.ishl, 1) := by decide +kernel
theorem dX11_needless_76 : decode cX11_needless 76 = .ok (.ior, 1) := by decide +kernel
theorem dX11_needless_77 : decode cX11_needless 77 = .ok (.istore_n 1, 1) := by decide +kernel
theorem dX11_needless_78 : decode cX11_needless 78 = .ok (.iinc 4 1, 3) := by decide +kernel
theorem dX11_needless_81 : decode cX11_needless 81 = .ok (.goto (-63), 3) := by decide +kernel
theorem dX11_needless_84 : decode cX11_needless 84 = .ok (.iload_n 1, 1) := by decide +kernel
theorem dX11_needless_85 : decode cX11_needless 85 = .ok (.ireturn, 1) := by decide +kernel
theorem dX11_isWriteAt_0 : decode cX11_isWriteAt 0 = .ok (.iload_n 1, 1) := by decide +kernel
theorem dX11_isWriteAt_1 : decode cX11_isWriteAt 1 = .ok (.iconst 0, 1) := by decide +kernel
theorem dX11_isWriteAt_2 : decode cX11_isWriteAt 2 = .ok (.aload_n 0, 1) := by decide +kernel
theorem dX11_isWriteAt_3 : decode cX11_isWriteAt 3 = .ok (.getfield 104, 3) := by decide +kernel
theorem dX11_isWriteAt_6 : decode cX11_isWriteAt 6 = .ok (.iconst 1, 1) := by decide +kernel
theorem dX11_isWriteAt_7 : decode cX11_isWriteAt 7 = .ok (.isub, 1) := by decide +kernel
theorem dX11_isWriteAt_8 : decode cX11_isWriteAt 8 = .ok (.invokestatic 89, 3) := by decide +kernel
theorem dX11_isWriteAt_11 : decode cX11_isWriteAt 11 = .ok (.ifCond .eq 15, 3) := by decide +kernel
theorem dX11_isWriteAt_14 : decode cX11_isWriteAt 14 = .ok (.aload_n 0, 1) := by decide +kernel
theorem dX11_isWriteAt_15 : decode cX11_isWriteAt 15 = .ok (.iload_n 1, 1) := by decide +kernel
theorem dX11_isWriteAt_16 : decode cX11_isWriteAt 16 = .ok (.invokevirtual 120, 3) := by decide +kernel
theorem dX11_isWriteAt_19 : decode cX11_isWriteAt 19 = .ok (.ifCond .eq 7, 3) := by decide +kernel
theorem dX11_isWriteAt_22 : decode cX11_isWriteAt 22 = .ok (.iconst 1, 1) := by decide +kernel
theorem dX11_isWriteAt_23 : decode cX11_isWriteAt 23 = .ok (.goto 4, 3) := by decide +kernel
theorem dX11_isWriteAt_26 : decode cX11_isWriteAt 26 = .ok (.iconst 0, 1) := by decide +kernel
theorem dX11_isWriteAt_27 : decode cX11_isWriteAt 27 = .ok (.ireturn, 1) := by decide +kernel
theorem dX11_order_0 : decode cX11_order 0 = .ok (.iload_n 1, 1) := by decide +kernel
theorem dX11_order_1 : decode cX11_order 1 = .ok (.iconst 0, 1) := by decide +kernel
theorem dX11_order_2 : decode cX11_order 2 = .ok (.aload_n 0, 1) := by decide +kernel
theorem dX11_order_3 : decode cX11_order 3 = .ok (.getfield 111, 3) := by decide +kernel
theorem dX11_order_6 : decode cX11_order 6 = .ok (.iconst 1, 1) := by decide +kernel
theorem dX11_order_7 : decode cX11_order 7 = .ok (.isub, 1) := by decide +kernel
theorem dX11_order_8 : decode cX11_order 8 = .ok (.invokestatic 89, 3) := by decide +kernel
theorem dX11_order_11 : decode cX11_order 11 = .ok (.ifCond .eq 24, 3) := by decide +kernel
theorem dX11_order_14 : decode cX11_order 14 = .ok (.aload_n 0, 1) := by decide +kernel
theorem dX11_order_15 : decode cX11_order 15 = .ok (.iload_n 2, 1) := by decide +kernel
theorem dX11_order_16 : decode cX11_order 16 = .ok (.invokevirtual 290, 3) := by decide +kernel
theorem dX11_order_19 : decode cX11_order 19 = .ok (.ifCond .eq 16, 3) := by decide +kernel
theorem dX11_order_22 : decode cX11_order 22 = .ok (.aload_n 0, 1) := by decide +kernel
theorem dX11_order_23 : decode cX11_order 23 = .ok (.iload_n 3, 1) := by decide +kernel
theorem dX11_order_24 : decode cX11_order 24 = .ok (.invokevirtual 290, 3) := by decide +kernel
theorem dX11_order_27 : decode cX11_order 27 = .ok (.ifCond .eq 8, 3) := by decide +kernel
theorem dX11_order_30 : decode cX11_order 30 = .ok (.iload_n 2, 1) := by decide +kernel
theorem dX11_order_31 : decode cX11_order 31 = .ok (.iload_n 3, 1) := by decide +kernel
theorem dX11_order_32 : decode cX11_order 32 = .ok (.if_icmp .ne 6, 3) := by decide +kernel
theorem dX11_order_35 : decode cX11_order 35 = .ok (.bipush (-101), 2) := by decide +kernel
theorem dX11_order_37 : decode cX11_order 37 = .ok (.ireturn, 1) := by decide +kernel
theorem dX11_order_38 : decode cX11_order 38 = .ok (.aload_n 0, 1) := by decide +kernel
theorem dX11_order_39 : decode cX11_order 39 = .ok (.invokevirtual 264, 3) := by decide +kernel
theorem dX11_order_42 : decode cX11_order 42 = .ok (.aload_n 0, 1) := by decide +kernel
theorem dX11_order_43 : decode cX11_order 43 = .ok (.invokevirtual 267, 3) := by decide +kernel
theorem dX11_order_46 : decode cX11_order 46 = .ok (.aload_n 0, 1) := by decide +kernel
theorem dX11_order_47 : decode cX11_order 47 = .ok (.aload_n 0, 1) := by decide +kernel
theorem dX11_order_48 : decode cX11_order 48 = .ok (.getfield 104, 3) := by decide +kernel
theorem dX11_order_51 : decode cX11_order 51 = .ok (.iconst 0, 1) := by decide +kernel
theorem dX11_order_52 : decode cX11_order 52 = .ok (.invokevirtual 244, 3) := by decide +kernel
theorem dX11_order_55 : decode cX11_order 55 = .ok (.aload_n 0, 1) := by decide +kernel
theorem dX11_order_56 : decode cX11_order 56 = .ok (.getfield 235, 3) := by decide +kernel
theorem dX11_order_59 : decode cX11_order 59 = .ok (.istore 4, 2) := by decide +kernel
theorem dX11_order_61 : decode cX11_order 61 = .ok (.iconst 0, 1) := by decide +kernel
theorem dX11_order_62 : decode cX11_order 62 = .ok (.istore 5, 2) := by decide +kernel
theorem dX11_order_64 : decode cX11_order 64 = .ok (.iload 5, 2) := by decide +kernel
theorem dX11_order_66 : decode cX11_order 66 = .ok (.aload_n 0, 1) := by decide +kernel
theorem dX11_order_67 : decode cX11_order 67 = .ok (.getfield 238, 3) := by decide +kernel
theorem dX11_order_70 : decode cX11_order 70 = .ok (.if_icmp .ge 68, 3) := by decide +kernel
theorem dX11_order_73 : decode cX11_order 73 = .ok (.aload_n 0, 1) := by decide +kernel
theorem dX11_order_74 : decode cX11_order 74 = .ok (.getfield 80, 3) := by decide +kernel
theorem dX11_order_77 : decode cX11_order 77 = .ok (.iload 5, 2) := by decide +kernel
theorem dX11_order_79 : decode cX11_order 79 = .ok (.iaload, 1) := by decide +kernel
theorem dX11_order_80 : decode cX11_order 80 = .ok (.iload_n 2, 1) := by decide +kernel
theorem dX11_order_81 : decode cX11_order 81 = .ok (.ishr, 1) := by decide +kernel
theorem dX11_order_82 : decode cX11_order 82 = .ok (.iconst 1, 1) := by decide +kernel
theorem dX11_order_83 : decode cX11_order 83 = .ok (.iand, 1) := by decide +kernel
theorem dX11_order_84 : decode cX11_order 84 = .ok (.iconst 1, 1) := by decide +kernel
theorem dX11_order_85 : decode cX11_order 85 = .ok (.if_icmp .ne 35, 3) := by decide +kernel
theorem dX11_order_88 : decode cX11_order 88 = .ok (.aload_n 0, 1) := by decide +kernel
theorem dX11_order_89 : decode cX11_order 89 = .ok (.getfield 80, 3) := by decide +kernel
theorem dX11_order_92 : decode cX11_order 92 = .ok (.iload 5, 2) := by decide +kernel
theorem dX11_order_94 : decode cX11_order 94 = .ok (.iaload, 1) := by decide +kernel
theorem dX11_order_95 : decode cX11_order 95 = .ok (.iload_n 3, 1) := by decide +kernel
theorem dX11_order_96 : decode cX11_order 96 = .ok (.ishr, 1) := by decide +kernel
theorem dX11_order_97 : decode cX11_order 97 = .ok (.iconst 1, 1) := by decide +kernel
theorem dX11_order_98 : decode cX11_order 98 = .ok (.iand, 1) := by decide +kernel
theorem dX11_order_99 : decode cX11_order 99 = .ok (.iconst 1, 1) := by decide +kernel
theorem dX11_order_100 : decode cX11_order 100 = .ok (.if_icmp .ne 20, 3) := by decide +kernel
theorem dX11_order_103 : decode cX11_order 103 = .ok (.aload_n 0, 1) := by decide +kernel
theorem dX11_order_104 : decode cX11_order 104 = .ok (.iload_n 1, 1) := by decide +kernel
theorem dX11_order_105 : decode cX11_order 105 = .ok (.iload 4, 2) := by decide +kernel
theorem dX11_order_107 : decode cX11_order 107 = .ok (.aload_n 0, 1) := by decide +kernel
theorem dX11_order_108 : decode cX11_order 108 = .ok (.getfield 80, 3) := by decide +kernel
theorem dX11_order_111 : decode cX11_order 111 = .ok (.iload 5, 2) := by decide +kernel
theorem dX11_order_113 : decode cX11_order 113 = .ok (.iaload, 1) := by decide +kernel
theorem dX11_order_114 : decode cX11_order 114 = .ok (.iload_n 2, 1) := by decide +kernel
theorem dX11_order_115 : decode cX11_order 115 = .ok (.iload_n 3, 1) := by decide +kernel
theorem dX11_order_116 : decode cX11_order 116 = .ok (.invokevirtual 293, 3) := by decide +kernel
theorem dX11_order_119 : decode cX11_order 119 = .ok (.ireturn, 1) := by decide +kernel
theorem dX11_order_120 : decode cX11_order 120 = .ok (.iload 4, 2) := by decide +kernel
theorem dX11_order_122 : decode cX11_order 122 = .ok (.aload_n 0, 1) := by decide +kernel
theorem dX11_order_123 : decode cX11_order 123 = .ok (.getfield 80, 3) := by decide +kernel
theorem dX11_order_126 : decode cX11_order 126 = .ok (.iload 5, 2) := by decide +kernel
theorem dX11_order_128 : decode cX11_order 128 = .ok (.iaload, 1) := by decide +kernel
theorem dX11_order_129 : decode cX11_order 129 = .ok (.ior, 1) := by decide +kernel
theorem dX11_order_130 : decode cX11_order 130 = .ok (.istore 4, 2) := by decide +kernel
theorem dX11_order_132 : decode cX11_order 132 = .ok (.iinc 5 1, 3) := by decide +kernel
theorem dX11_order_135 : decode cX11_order 135 = .ok (.goto (-71), 3) := by decide +kernel
theorem dX11_order_138 : decode cX11_order 138 = .ok (.bipush (-103), 2) := by decide +kernel
theorem dX11_order_140 : decode cX11_order 140 = .ok (.ireturn, 1) := by decide +kernel
theorem dX11_countOrder_0 : decode cX11_countOrder 0 = .ok (.iload_n 3, 1) := by decide +kernel
theorem dX11_countOrder_1 : decode cX11_countOrder 1 = .ok (.iconst 1, 1) := by decide +kernel
theorem dX11_countOrder_2 : decode cX11_countOrder 2 = .ok (.iload 4, 2) := by decide +kernel
theorem dX11_countOrder_4 : decode cX11_countOrder 4 = .ok (.ishl, 1) := by decide +kernel
theorem dX11_countOrder_5 : decode cX11_countOrder 5 = .ok (.iconst (-1), 1) := by decide +kernel
theorem dX11_countOrder_6 : decode cX11_countOrder 6 = .ok (.ixor, 1) := by decide +kernel
theorem dX11_countOrder_7 : decode cX11_countOrder 7 = .ok (.iand, 1) := by decide +kernel
theorem dX11_countOrder_8 : decode cX11_countOrder 8 = .ok (.iconst 1, 1) := by decide +kernel
theorem dX11_countOrder_9 : decode cX11_countOrder 9 = .ok (.iload 5, 2) := by decide +kernel
theorem dX11_countOrder_11 : decode cX11_countOrder 11 = .ok (.ishl, 1) := by decide +kernel
theorem dX11_countOrder_12 : decode cX11_countOrder 12 = .ok (.iconst (-1), 1) := by decide +kernel
theorem dX11_countOrder_13 : decode cX11_countOrder 13 = .ok (.ixor, 1) := by decide +kernel
theorem dX11_countOrder_14 : decode cX11_countOrder 14 = .ok (.iand, 1) := by decide +kernel
theorem dX11_countOrder_15 : decode cX11_countOrder 15 = .ok (.istore 6, 2) := by decide +kernel
theorem dX11_countOrder_17 : decode cX11_countOrder 17 = .ok (.iconst 0, 1) := by decide +kernel
theorem dX11_countOrder_18 : decode cX11_countOrder 18 = .ok (.istore 7, 2) := by decide +kernel
theorem dX11_countOrder_20 : decode cX11_countOrder 20 = .ok (.iload 6, 2) := by decide +kernel
theorem dX11_countOrder_22 : decode cX11_countOrder 22 = .ok (.istore 8, 2) := by decide +kernel
theorem dX11_countOrder_24 : decode cX11_countOrder 24 = .ok (.iconst 1, 1) := by decide +kernel
theorem dX11_countOrder_25 : decode cX11_countOrder 25 = .ok (.istore 9, 2) := by decide +kernel
theorem dX11_countOrder_27 : decode cX11_countOrder 27 = .ok (.iload 9, 2) := by decide +kernel
theorem dX11_countOrder_29 : decode cX11_countOrder 29 = .ok (.ifCond .eq 66, 3) := by decide +kernel
theorem dX11_countOrder_32 : decode cX11_countOrder 32 = .ok (.aload_n 0, 1) := by decide +kernel
theorem dX11_countOrder_33 : decode cX11_countOrder 33 = .ok (.iload_n 2, 1) := by decide +kernel
theorem dX11_countOrder_34 : decode cX11_countOrder 34 = .ok (.iload 8, 2) := by decide +kernel
theorem dX11_countOrder_36 : decode cX11_countOrder 36 = .ok (.ior, 1) := by decide +kernel
theorem dX11_countOrder_37 : decode cX11_countOrder 37 = .ok (.iconst 1, 1) := by decide +kernel
theorem dX11_countOrder_38 : decode cX11_countOrder 38 = .ok (.iload 5, 2) := by decide +kernel
theorem dX11_countOrder_40 : decode cX11_countOrder 40 = .ok (.ishl, 1) := by decide +kernel
theorem dX11_countOrder_41 : decode cX11_countOrder 41 = .ok (.ior, 1) := by decide +kernel
theorem dX11_countOrder_42 : decode cX11_countOrder 42 = .ok (.invokevirtual 251, 3) := by decide +kernel
theorem dX11_countOrder_45 : decode cX11_countOrder 45 = .ok (.istore 10, 2) := by decide +kernel
theorem dX11_countOrder_47 : decode cX11_countOrder 47 = .ok (.iload 7, 2) := by decide +kernel
theorem dX11_countOrder_49 : decode cX11_countOrder 49 = .ok (.aload_n 0, 1) := by decide +kernel
theorem dX11_countOrder_50 : decode cX11_countOrder 50 = .ok (.getfield 68, 3) := by decide +kernel
theorem dX11_countOrder_53 : decode cX11_countOrder 53 = .ok (.iload 10, 2) := by decide +kernel
theorem dX11_countOrder_55 : decode cX11_countOrder 55 = .ok (.iaload, 1) := by decide +kernel
theorem dX11_countOrder_56 : decode cX11_countOrder 56 = .ok (.iload_n 1, 1) := by decide +kernel
theorem dX11_countOrder_57 : decode cX11_countOrder 57 = .ok (.ishr, 1) := by decide +kernel
theorem dX11_countOrder_58 : decode cX11_countOrder 58 = .ok (.iconst 1, 1) := by decide +kernel
theorem dX11_countOrder_59 : decode cX11_countOrder 59 = .ok (.iand, 1) := by decide +kernel
theorem dX11_countOrder_60 : decode cX11_countOrder 60 = .ok (.ifCond .ne 7, 3) := by decide +kernel
theorem dX11_countOrder_63 : decode cX11_countOrder 63 = .ok (.iconst 1, 1) := by decide +kernel
theorem dX11_countOrder_64 : decode cX11_countOrder 64 = .ok (.goto 4, 3) := by decide +kernel
theorem dX11_countOrder_67 : decode cX11_countOrder 67 = .ok (.iconst 0, 1) := by decide +kernel
theorem dX11_countOrder_68 : decode cX11_countOrder 68 = .ok (.iadd, 1) := by decide +kernel
theorem dX11_countOrder_69 : decode cX11_countOrder 69 = .ok (.istore 7, 2) := by decide +kernel
theorem dX11_countOrder_71 : decode cX11_countOrder 71 = .ok (.iload 8, 2) := by decide +kernel
theorem dX11_countOrder_73 : decode cX11_countOrder 73 = .ok (.ifCond .eq 7, 3) := by decide +kernel
theorem dX11_countOrder_76 : decode cX11_countOrder 76 = .ok (.iconst 1, 1) := by decide +kernel
theorem dX11_countOrder_77 : decode cX11_countOrder 77 = .ok (.goto 4, 3) := by decide +kernel
theorem dX11_countOrder_80 : decode cX11_countOrder 80 = .ok (.iconst 0, 1) := by decide +kernel
theorem dX11_countOrder_81 : decode cX11_countOrder 81 = .ok (.istore 9, 2) := by decide +kernel
theorem dX11_countOrder_83 : decode cX11_countOrder 83 = .ok (.iload 8, 2) := by decide +kernel
theorem dX11_countOrder_85 : decode cX11_countOrder 85 = .ok (.iconst 1, 1) := by decide +kernel
theorem dX11_countOrder_86 : decode cX11_countOrder 86 = .ok (.isub, 1) := by decide +kernel
theorem dX11_countOrder_87 : decode cX11_countOrder 87 = .ok (.iload 6, 2) := by decide +kernel
theorem dX11_countOrder_89 : decode cX11_countOrder 89 = .ok (.iand, 1) := by decide +kernel
theorem dX11_countOrder_90 : decode cX11_countOrder 90 = .ok (.istore 8, 2) := by decide +kernel
theorem dX11_countOrder_92 : decode cX11_countOrder 92 = .ok (.goto (-65), 3) := by decide +kernel
theorem dX11_countOrder_95 : decode cX11_countOrder 95 = .ok (.iload 7, 2) := by decide +kernel
theorem dX11_countOrder_97 : decode cX11_countOrder 97 = .ok (.ireturn, 1) := by decide +kernel
theorem dX11_epochsWithWrites_0 : decode cX11_epochsWithWrites 0 = .ok (.iconst 0, 1) := by decide +kernel
theorem dX11_epochsWithWrites_1 : decode cX11_epochsWithWrites 1 = .ok (.istore_n 1, 1) := by decide +kernel
theorem dX11_epochsWithWrites_2 : decode cX11_epochsWithWrites 2 = .ok (.iconst 0, 1) := by decide +kernel
theorem dX11_epochsWithWrites_3 : decode cX11_epochsWithWrites 3 = .ok (.istore_n 2, 1) := by decide +kernel
theorem dX11_epochsWithWrites_4 : decode cX11_epochsWithWrites 4 = .ok (.iconst 0, 1) := by decide +kernel
theorem dX11_epochsWithWrites_5 : decode cX11_epochsWithWrites 5 = .ok (.istore_n 3, 1) := by decide +kernel
theorem dX11_epochsWithWrites_6 : decode cX11_epochsWithWrites 6 = .ok (.iload_n 3, 1) := by decide +kernel
theorem dX11_epochsWithWrites_7 : decode cX11_epochsWithWrites 7 = .ok (.aload_n 0, 1) := by decide +kernel
theorem dX11_epochsWithWrites_8 : decode cX11_epochsWithWrites 8 = .ok (.getfield 104, 3) := by decide +kernel
theorem dX11_epochsWithWrites_11 : decode cX11_epochsWithWrites 11 = .ok (.if_icmp .ge 56, 3) := by decide +kernel
theorem dX11_epochsWithWrites_14 : decode cX11_epochsWithWrites 14 = .ok (.iload_n 2, 1) := by decide +kernel
theorem dX11_epochsWithWrites_15 : decode cX11_epochsWithWrites 15 = .ok (.ifCond .ne 11, 3) := by decide +kernel
theorem dX11_epochsWithWrites_18 : decode cX11_epochsWithWrites 18 = .ok (.aload_n 0, 1) := by decide +kernel
theorem dX11_epochsWithWrites_19 : decode cX11_epochsWithWrites 19 = .ok (.iload_n 3, 1) := by decide +kernel
theorem dX11_epochsWithWrites_20 : decode cX11_epochsWithWrites 20 = .ok (.invokevirtual 120, 3) := by decide +kernel
theorem dX11_epochsWithWrites_23 : decode cX11_epochsWithWrites 23 = .ok (.ifCond .eq 7, 3) := by decide +kernel
theorem dX11_epochsWithWrites_26 : decode cX11_epochsWithWrites 26 = .ok (.iconst 1, 1) := by decide +kernel
theorem dX11_epochsWithWrites_27 : decode cX11_epochsWithWrites 27 = .ok (.goto 4, 3) := by decide +kernel
theorem dX11_epochsWithWrites_30 : decode cX11_epochsWithWrites 30 = .ok (.iconst 0, 1) := by decide +kernel
theorem dX11_epochsWithWrites_31 : decode cX11_epochsWithWrites 31 = .ok (.istore_n 2, 1) := by decide +kernel
theorem dX11_epochsWithWrites_32 : decode cX11_epochsWithWrites 32 = .ok (.iload_n 2, 1) := by decide +kernel
theorem dX11_epochsWithWrites_33 : decode cX11_epochsWithWrites 33 = .ok (.ifCond .eq 28, 3) := by decide +kernel
theorem dX11_epochsWithWrites_36 : decode cX11_epochsWithWrites 36 = .ok (.aload_n 0, 1) := by decide +kernel
theorem dX11_epochsWithWrites_37 : decode cX11_epochsWithWrites 37 = .ok (.getfield 13, 3) := by decide +kernel
theorem dX11_epochsWithWrites_40 : decode cX11_epochsWithWrites 40 = .ok (.iload_n 3, 1) := by decide +kernel
theorem dX11_epochsWithWrites_41 : decode cX11_epochsWithWrites 41 = .ok (.iaload, 1) := by decide +kernel
theorem dX11_epochsWithWrites_42 : decode cX11_epochsWithWrites 42 = .ok (.iconst 2, 1) := by decide +kernel
theorem dX11_epochsWithWrites_43 : decode cX11_epochsWithWrites 43 = .ok (.if_icmp .eq 13, 3) := by decide +kernel
theorem dX11_epochsWithWrites_46 : decode cX11_epochsWithWrites 46 = .ok (.aload_n 0, 1) := by decide +kernel
theorem dX11_epochsWithWrites_47 : decode cX11_epochsWithWrites 47 = .ok (.getfield 13, 3) := by decide +kernel
theorem dX11_epochsWithWrites_50 : decode cX11_epochsWithWrites 50 = .ok (.iload_n 3, 1) := by decide +kernel
theorem dX11_epochsWithWrites_51 : decode cX11_epochsWithWrites 51 = .ok (.iaload, 1) := by decide +kernel
theorem dX11_epochsWithWrites_52 : decode cX11_epochsWithWrites 52 = .ok (.iconst 3, 1) := by decide +kernel
theorem dX11_epochsWithWrites_53 : decode cX11_epochsWithWrites 53 = .ok (.if_icmp .ne 8, 3) := by decide +kernel
theorem dX11_epochsWithWrites_56 : decode cX11_epochsWithWrites 56 = .ok (.iinc 1 1, 3) := by decide +kernel
theorem dX11_epochsWithWrites_59 : decode cX11_epochsWithWrites 59 = .ok (.iconst 0, 1) := by decide +kernel
theorem dX11_epochsWithWrites_60 : decode cX11_epochsWithWrites 60 = .ok (.istore_n 2, 1) := by decide +kernel
theorem dX11_epochsWithWrites_61 : decode cX11_epochsWithWrites 61 = .ok (.iinc 3 1, 3) := by decide +kernel
theorem dX11_epochsWithWrites_64 : decode cX11_epochsWithWrites 64 = .ok (.goto (-58), 3) := by decide +kernel
theorem dX11_epochsWithWrites_67 : decode cX11_epochsWithWrites 67 = .ok (.iload_n 2, 1) := by decide +kernel
theorem dX11_epochsWithWrites_68 : decode cX11_epochsWithWrites 68 = .ok (.ifCond .eq 9, 3) := by decide +kernel
theorem dX11_epochsWithWrites_71 : decode cX11_epochsWithWrites 71 = .ok (.iload_n 1, 1) := by decide +kernel
theorem dX11_epochsWithWrites_72 : decode cX11_epochsWithWrites 72 = .ok (.iconst 1, 1) := by decide +kernel
theorem dX11_epochsWithWrites_73 : decode cX11_epochsWithWrites 73 = .ok (.iadd, 1) := by decide +kernel
theorem dX11_epochsWithWrites_74 : decode cX11_epochsWithWrites 74 = .ok (.goto 4, 3) := by decide +kernel
theorem dX11_epochsWithWrites_77 : decode cX11_epochsWithWrites 77 = .ok (.iload_n 1, 1) := by decide +kernel
theorem dX11_epochsWithWrites_78 : decode cX11_epochsWithWrites 78 = .ok (.ireturn, 1) := by decide +kernel
theorem dX11_writeMany_0 : decode cX11_writeMany 0 = .ok (.iconst 0, 1) := by decide +kernel
theorem dX11_writeMany_1 : decode cX11_writeMany 1 = .ok (.istore_n 1, 1) := by decide +kernel
theorem dX11_writeMany_2 : decode cX11_writeMany 2 = .ok (.iconst 0, 1) := by decide +kernel
theorem dX11_writeMany_3 : decode cX11_writeMany 3 = .ok (.istore_n 2, 1) := by decide +kernel
theorem dX11_writeMany_4 : decode cX11_writeMany 4 = .ok (.iload_n 2, 1) := by decide +kernel
theorem dX11_writeMany_5 : decode cX11_writeMany 5 = .ok (.aload_n 0, 1) := by decide +kernel
theorem dX11_writeMany_6 : decode cX11_writeMany 6 = .ok (.getfield 104, 3) := by decide +kernel
theorem dX11_writeMany_9 : decode cX11_writeMany 9 = .ok (.if_icmp .ge 25, 3) := by decide +kernel
theorem dX11_writeMany_12 : decode cX11_writeMany 12 = .ok (.iload_n 1, 1) := by decide +kernel
theorem dX11_writeMany_13 : decode cX11_writeMany 13 = .ok (.aload_n 0, 1) := by decide +kernel
theorem dX11_writeMany_14 : decode cX11_writeMany 14 = .ok (.iload_n 2, 1) := by decide +kernel
theorem dX11_writeMany_15 : decode cX11_writeMany 15 = .ok (.invokevirtual 120, 3) := by decide +kernel
theorem dX11_writeMany_18 : decode cX11_writeMany 18 = .ok (.ifCond .eq 7, 3) := by decide +kernel
theorem dX11_writeMany_21 : decode cX11_writeMany 21 = .ok (.iconst 1, 1) := by decide +kernel
theorem dX11_writeMany_22 : decode cX11_writeMany 22 = .ok (.goto 4, 3) := by decide +kernel
theorem dX11_writeMany_25 : decode cX11_writeMany 25 = .ok (.iconst 0, 1) := by decide +kernel
theorem dX11_writeMany_26 : decode cX11_writeMany 26 = .ok (.iadd, 1) := by decide +kernel
theorem dX11_writeMany_27 : decode cX11_writeMany 27 = .ok (.istore_n 1, 1) := by decide +kernel
theorem dX11_writeMany_28 : decode cX11_writeMany 28 = .ok (.iinc 2 1, 3) := by decide +kernel
theorem dX11_writeMany_31 : decode cX11_writeMany 31 = .ok (.goto (-27), 3) := by decide +kernel
theorem dX11_writeMany_34 : decode cX11_writeMany 34 = .ok (.iload_n 1, 1) := by decide +kernel
theorem dX11_writeMany_35 : decode cX11_writeMany 35 = .ok (.ireturn, 1) := by decide +kernel
theorem dX11_countOf_0 : decode cX11_countOf 0 = .ok (.iload_n 1, 1) := by decide +kernel
theorem dX11_countOf_1 : decode cX11_countOf 1 = .ok (.tableswitch 78 0 6 #[43, 48, 53, 58, 63, 68, 73], 43) := by decide +kernel
theorem dX11_countOf_44 : decode cX11_countOf 44 = .ok (.aload_n 0, 1) := by decide +kernel
theorem dX11_countOf_45 : decode cX11_countOf 45 = .ok (.getfield 104, 3) := by decide +kernel
theorem dX11_countOf_48 : decode cX11_countOf 48 = .ok (.ireturn, 1) := by decide +kernel
theorem dX11_countOf_49 : decode cX11_countOf 49 = .ok (.aload_n 0, 1) := by decide +kernel
theorem dX11_countOf_50 : decode cX11_countOf 50 = .ok (.getfield 111, 3) := by decide +kernel
theorem dX11_countOf_53 : decode cX11_countOf 53 = .ok (.ireturn, 1) := by decide +kernel
theorem dX11_countOf_54 : decode cX11_countOf 54 = .ok (.aload_n 0, 1) := by decide +kernel
theorem dX11_countOf_55 : decode cX11_countOf 55 = .ok (.getfield 159, 3) := by decide +kernel
theorem dX11_countOf_58 : decode cX11_countOf 58 = .ok (.ireturn, 1) := by decide +kernel
theorem dX11_countOf_59 : decode cX11_countOf 59 = .ok (.aload_n 0, 1) := by decide +kernel
theorem dX11_countOf_60 : decode cX11_countOf 60 = .ok (.getfield 133, 3) := by decide +kernel
theorem dX11_countOf_63 : decode cX11_countOf 63 = .ok (.ireturn, 1) := by decide +kernel
theorem dX11_countOf_64 : decode cX11_countOf 64 = .ok (.aload_n 0, 1) := by decide +kernel
theorem dX11_countOf_65 : decode cX11_countOf 65 = .ok (.invokevirtual 296, 3) := by decide +kernel
theorem dX11_countOf_68 : decode cX11_countOf 68 = .ok (.ireturn, 1) := by decide +kernel
theorem dX11_countOf_69 : decode cX11_countOf 69 = .ok (.aload_n 0, 1) := by decide +kernel
theorem dX11_countOf_70 : decode cX11_countOf 70 = .ok (.invokevirtual 299, 3) := by decide +kernel
theorem dX11_countOf_73 : decode cX11_countOf 73 = .ok (.ireturn, 1) := by decide +kernel
theorem dX11_countOf_74 : decode cX11_countOf 74 = .ok (.aload_n 0, 1) := by decide +kernel
theorem dX11_countOf_75 : decode cX11_countOf 75 = .ok (.getfield 282, 3) := by decide +kernel
theorem dX11_countOf_78 : decode cX11_countOf 78 = .ok (.ireturn, 1) := by decide +kernel
theorem dX11_countOf_79 : decode cX11_countOf 79 = .ok (.bipush (-102), 2) := by decide +kernel
theorem dX11_countOf_81 : decode cX11_countOf 81 = .ok (.ireturn, 1) := by decide +kernel
theorem dX11_count_0 : decode cX11_count 0 = .ok (.aload_n 0, 1) := by decide +kernel
theorem dX11_count_1 : decode cX11_count 1 = .ok (.iload_n 1, 1) := by decide +kernel
theorem dX11_count_2 : decode cX11_count 2 = .ok (.invokevirtual 302, 3) := by decide +kernel
theorem dX11_count_5 : decode cX11_count 5 = .ok (.ireturn, 1) := by decide +kernel
theorem dX11_mix_0 : decode cX11_mix 0 = .ok (.aload_n 0, 1) := by decide +kernel
theorem dX11_mix_1 : decode cX11_mix 1 = .ok (.ldc2_w 305, 3) := by decide +kernel
theorem dX11_mix_4 : decode cX11_mix 4 = .ok (.aload_n 0, 1) := by decide +kernel
theorem dX11_mix_5 : decode cX11_mix 5 = .ok (.getfield 307, 3) := by decide +kernel
theorem dX11_mix_8 : decode cX11_mix 8 = .ok (.lmul, 1) := by decide +kernel
theorem dX11_mix_9 : decode cX11_mix 9 = .ok (.lload_n 1, 1) := by decide +kernel
theorem dX11_mix_10 : decode cX11_mix 10 = .ok (.ladd, 1) := by decide +kernel
theorem dX11_mix_11 : decode cX11_mix 11 = .ok (.putfield 307, 3) := by decide +kernel
theorem dX11_mix_14 : decode cX11_mix 14 = .ok (.return_, 1) := by decide +kernel
theorem dX11_digest_0 : decode cX11_digest 0 = .ok (.aload_n 0, 1) := by decide +kernel
theorem dX11_digest_1 : decode cX11_digest 1 = .ok (.ldc2_w 311, 3) := by decide +kernel
theorem dX11_digest_4 : decode cX11_digest 4 = .ok (.putfield 307, 3) := by decide +kernel
theorem dX11_digest_7 : decode cX11_digest 7 = .ok (.aload_n 0, 1) := by decide +kernel
theorem dX11_digest_8 : decode cX11_digest 8 = .ok (.iconst 0, 1) := by decide +kernel
theorem dX11_digest_9 : decode cX11_digest 9 = .ok (.invokevirtual 127, 3) := by decide +kernel
theorem dX11_digest_12 : decode cX11_digest 12 = .ok (.lstore_n 1, 1) := by decide +kernel
theorem dX11_digest_13 : decode cX11_digest 13 = .ok (.aload_n 0, 1) := by decide +kernel
theorem dX11_digest_14 : decode cX11_digest 14 = .ok (.lload_n 1, 1) := by decide +kernel
theorem dX11_digest_15 : decode cX11_digest 15 = .ok (.invokevirtual 313, 3) := by decide +kernel
theorem dX11_digest_18 : decode cX11_digest 18 = .ok (.iconst 0, 1) := by decide +kernel
theorem dX11_digest_19 : decode cX11_digest 19 = .ok (.istore_n 3, 1) := by decide +kernel
theorem dX11_digest_20 : decode cX11_digest 20 = .ok (.iload_n 3, 1) := by decide +kernel
theorem dX11_digest_21 : decode cX11_digest 21 = .ok (.aload_n 0, 1) := by decide +kernel
theorem dX11_digest_22 : decode cX11_digest 22 = .ok (.getfield 104, 3) := by decide +kernel
theorem dX11_digest_25 : decode cX11_digest 25 = .ok (.if_icmp .ge 51, 3) := by decide +kernel
theorem dX11_digest_28 : decode cX11_digest 28 = .ok (.aload_n 0, 1) := by decide +kernel
theorem dX11_digest_29 : decode cX11_digest 29 = .ok (.aload_n 0, 1) := by decide +kernel
theorem dX11_digest_30 : decode cX11_digest 30 = .ok (.getfield 13, 3) := by decide +kernel
theorem dX11_digest_33 : decode cX11_digest 33 = .ok (.iload_n 3, 1) := by decide +kernel
theorem dX11_digest_34 : decode cX11_digest 34 = .ok (.iaload, 1) := by decide +kernel
theorem dX11_digest_35 : decode cX11_digest 35 = .ok (.i2l, 1) := by decide +kernel
theorem dX11_digest_36 : decode cX11_digest 36 = .ok (.invokevirtual 313, 3) := by decide +kernel
theorem dX11_digest_39 : decode cX11_digest 39 = .ok (.iconst 0, 1) := by decide +kernel
theorem dX11_digest_40 : decode cX11_digest 40 = .ok (.istore 4, 2) := by decide +kernel
theorem dX11_digest_42 : decode cX11_digest 42 = .ok (.iload 4, 2) := by decide +kernel
theorem dX11_digest_44 : decode cX11_digest 44 = .ok (.iconst 4, 1) := by decide +kernel
theorem dX11_digest_45 : decode cX11_digest 45 = .ok (.if_icmp .ge 25, 3) := by decide +kernel
theorem dX11_digest_48 : decode cX11_digest 48 = .ok (.aload_n 0, 1) := by decide +kernel
theorem dX11_digest_49 : decode cX11_digest 49 = .ok (.aload_n 0, 1) := by decide +kernel
theorem dX11_digest_50 : decode cX11_digest 50 = .ok (.getfield 16, 3) := by decide +kernel
theorem dX11_digest_53 : decode cX11_digest 53 = .ok (.iconst 4, 1) := by decide +kernel
theorem dX11_digest_54 : decode cX11_digest 54 = .ok (.iload_n 3, 1) := by decide +kernel
theorem dX11_digest_55 : decode cX11_digest 55 = .ok (.imul, 1) := by decide +kernel
theorem dX11_digest_56 : decode cX11_digest 56 = .ok (.iload 4, 2) := by decide +kernel
theorem dX11_digest_58 : decode cX11_digest 58 = .ok (.iadd, 1) := by decide +kernel
theorem dX11_digest_59 : decode cX11_digest 59 = .ok (.iaload, 1) := by decide +kernel
theorem dX11_digest_60 : decode cX11_digest 60 = .ok (.i2l, 1) := by decide +kernel
theorem dX11_digest_61 : decode cX11_digest 61 = .ok (.invokevirtual 313, 3) := by decide +kernel
theorem dX11_digest_64 : decode cX11_digest 64 = .ok (.iinc 4 1, 3) := by decide +kernel
theorem dX11_digest_67 : decode cX11_digest 67 = .ok (.goto (-25), 3) := by decide +kernel
theorem dX11_digest_70 : decode cX11_digest 70 = .ok (.iinc 3 1, 3) := by decide +kernel
theorem dX11_digest_73 : decode cX11_digest 73 = .ok (.goto (-53), 3) := by decide +kernel
theorem dX11_digest_76 : decode cX11_digest 76 = .ok (.aload_n 0, 1) := by decide +kernel
theorem dX11_digest_77 : decode cX11_digest 77 = .ok (.aload_n 0, 1) := by decide +kernel
theorem dX11_digest_78 : decode cX11_digest 78 = .ok (.invokevirtual 288, 3) := by decide +kernel
theorem dX11_digest_81 : decode cX11_digest 81 = .ok (.invokevirtual 313, 3) := by decide +kernel
theorem dX11_digest_84 : decode cX11_digest 84 = .ok (.iconst 0, 1) := by decide +kernel
theorem dX11_digest_85 : decode cX11_digest 85 = .ok (.istore_n 3, 1) := by decide +kernel
theorem dX11_digest_86 : decode cX11_digest 86 = .ok (.iload_n 3, 1) := by decide +kernel
theorem dX11_digest_87 : decode cX11_digest 87 = .ok (.aload_n 0, 1) := by decide +kernel
theorem dX11_digest_88 : decode cX11_digest 88 = .ok (.getfield 111, 3) := by decide +kernel
theorem dX11_digest_91 : decode cX11_digest 91 = .ok (.if_icmp .ge 49, 3) := by decide +kernel
theorem dX11_digest_94 : decode cX11_digest 94 = .ok (.aload_n 0, 1) := by decide +kernel
theorem dX11_digest_95 : decode cX11_digest 95 = .ok (.lload_n 1, 1) := by decide +kernel
theorem dX11_digest_96 : decode cX11_digest 96 = .ok (.invokevirtual 195, 3) := by decide +kernel
theorem dX11_digest_99 : decode cX11_digest 99 = .ok (.aload_n 0, 1) := by decide +kernel
theorem dX11_digest_100 : decode cX11_digest 100 = .ok (.aload_n 0, 1) := by decide +kernel
theorem dX11_digest_101 : decode cX11_digest 101 = .ok (.getfield 29, 3) := by decide +kernel
theorem dX11_digest_104 : decode cX11_digest 104 = .ok (.iload_n 3, 1) := by decide +kernel
theorem dX11_digest_105 : decode cX11_digest 105 = .ok (.baload, 1) := by decide +kernel
theorem dX11_digest_106 : decode cX11_digest 106 = .ok (.ifCond .eq 7, 3) := by decide +kernel
theorem dX11_digest_109 : decode cX11_digest 109 = .ok (.lconst 1, 1) := by decide +kernel
theorem dX11_digest_110 : decode cX11_digest 110 = .ok (.goto 4, 3) := by decide +kernel
theorem dX11_digest_113 : decode cX11_digest 113 = .ok (.lconst 0, 1) := by decide +kernel
theorem dX11_digest_114 : decode cX11_digest 114 = .ok (.invokevirtual 313, 3) := by decide +kernel
theorem dX11_digest_117 : decode cX11_digest 117 = .ok (.aload_n 0, 1) := by decide +kernel
theorem dX11_digest_118 : decode cX11_digest 118 = .ok (.aload_n 0, 1) := by decide +kernel
theorem dX11_digest_119 : decode cX11_digest 119 = .ok (.iload_n 3, 1) := by decide +kernel
theorem dX11_digest_120 : decode cX11_digest 120 = .ok (.invokevirtual 216, 3) := by decide +kernel
theorem dX11_digest_123 : decode cX11_digest 123 = .ok (.ifCond .eq 7, 3) := by decide +kernel
theorem dX11_digest_126 : decode cX11_digest 126 = .ok (.lconst 1, 1) := by decide +kernel
theorem dX11_digest_127 : decode cX11_digest 127 = .ok (.goto 4, 3) := by decide +kernel
theorem dX11_digest_130 : decode cX11_digest 130 = .ok (.lconst 0, 1) := by decide +kernel
theorem dX11_digest_131 : decode cX11_digest 131 = .ok (.invokevirtual 313, 3) := by decide +kernel
theorem dX11_digest_134 : decode cX11_digest 134 = .ok (.iinc 3 1, 3) := by decide +kernel
theorem dX11_digest_137 : decode cX11_digest 137 = .ok (.goto (-51), 3) := by decide +kernel
theorem dX11_digest_140 : decode cX11_digest 140 = .ok (.iconst 0, 1) := by decide +kernel
theorem dX11_digest_141 : decode cX11_digest 141 = .ok (.istore_n 3, 1) := by decide +kernel
theorem dX11_digest_142 : decode cX11_digest 142 = .ok (.iload_n 3, 1) := by decide +kernel
theorem dX11_digest_143 : decode cX11_digest 143 = .ok (.aload_n 0, 1) := by decide +kernel
theorem dX11_digest_144 : decode cX11_digest 144 = .ok (.getfield 104, 3) := by decide +kernel
theorem dX11_digest_147 : decode cX11_digest 147 = .ok (.if_icmp .gt 23, 3) := by decide +kernel
theorem dX11_digest_150 : decode cX11_digest 150 = .ok (.aload_n 0, 1) := by decide +kernel
theorem dX11_digest_151 : decode cX11_digest 151 = .ok (.iload_n 3, 1) := by decide +kernel
theorem dX11_digest_152 : decode cX11_digest 152 = .ok (.invokevirtual 273, 3) := by decide +kernel
theorem dX11_digest_155 : decode cX11_digest 155 = .ok (.aload_n 0, 1) := by decide +kernel
theorem dX11_digest_156 : decode cX11_digest 156 = .ok (.aload_n 0, 1) := by decide +kernel
theorem dX11_digest_157 : decode cX11_digest 157 = .ok (.getfield 270, 3) := by decide +kernel
theorem dX11_digest_160 : decode cX11_digest 160 = .ok (.i2l, 1) := by decide +kernel
theorem dX11_digest_161 : decode cX11_digest 161 = .ok (.invokevirtual 313, 3) := by decide +kernel
theorem dX11_digest_164 : decode cX11_digest 164 = .ok (.iinc 3 1, 3) := by decide +kernel
theorem dX11_digest_167 : decode cX11_digest 167 = .ok (.goto (-25), 3) := by decide +kernel
theorem dX11_digest_170 : decode cX11_digest 170 = .ok (.aload_n 0, 1) := by decide +kernel
theorem dX11_digest_171 : decode cX11_digest 171 = .ok (.aload_n 0, 1) := by decide +kernel
theorem dX11_digest_172 : decode cX11_digest 172 = .ok (.lload_n 1, 1) := by decide +kernel
theorem dX11_digest_173 : decode cX11_digest 173 = .ok (.invokevirtual 202, 3) := by decide +kernel
theorem dX11_digest_176 : decode cX11_digest 176 = .ok (.invokevirtual 313, 3) := by decide +kernel
theorem dX11_digest_179 : decode cX11_digest 179 = .ok (.aload_n 0, 1) := by decide +kernel
theorem dX11_digest_180 : decode cX11_digest 180 = .ok (.aload_n 0, 1) := by decide +kernel
theorem dX11_digest_181 : decode cX11_digest 181 = .ok (.getfield 39, 3) := by decide +kernel
theorem dX11_digest_184 : decode cX11_digest 184 = .ok (.i2l, 1) := by decide +kernel
theorem dX11_digest_185 : decode cX11_digest 185 = .ok (.invokevirtual 313, 3) := by decide +kernel
theorem dX11_digest_188 : decode cX11_digest 188 = .ok (.aload_n 0, 1) := by decide +kernel
theorem dX11_digest_189 : decode cX11_digest 189 = .ok (.aload_n 0, 1) := by decide +kernel
theorem dX11_digest_190 : decode cX11_digest 190 = .ok (.getfield 43, 3) := by decide +kernel
theorem dX11_digest_193 : decode cX11_digest 193 = .ok (.i2l, 1) := by decide +kernel
theorem dX11_digest_194 : decode cX11_digest 194 = .ok (.invokevirtual 313, 3) := by decide +kernel
theorem dX11_digest_197 : decode cX11_digest 197 = .ok (.iconst 0, 1) := by decide +kernel
theorem dX11_digest_198 : decode cX11_digest 198 = .ok (.istore_n 3, 1) := by decide +kernel
theorem dX11_digest_199 : decode cX11_digest 199 = .ok (.iload_n 3, 1) := by decide +kernel
theorem dX11_digest_200 : decode cX11_digest 200 = .ok (.aload_n 0, 1) := by decide +kernel
theorem dX11_digest_201 : decode cX11_digest 201 = .ok (.getfield 133, 3) := by decide +kernel
theorem dX11_digest_204 : decode cX11_digest 204 = .ok (.if_icmp .ge 20, 3) := by decide +kernel
theorem dX11_digest_207 : decode cX11_digest 207 = .ok (.aload_n 0, 1) := by decide +kernel
theorem dX11_digest_208 : decode cX11_digest 208 = .ok (.aload_n 0, 1) := by decide +kernel
theorem dX11_digest_209 : decode cX11_digest 209 = .ok (.getfield 19, 3) := by decide +kernel
theorem dX11_digest_212 : decode cX11_digest 212 = .ok (.iload_n 3, 1) := by decide +kernel
theorem dX11_digest_213 : decode cX11_digest 213 = .ok (.baload, 1) := by decide +kernel
theorem dX11_digest_214 : decode cX11_digest 214 = .ok (.i2l, 1) := by decide +kernel
theorem dX11_digest_215 : decode cX11_digest 215 = .ok (.invokevirtual 313, 3) := by decide +kernel
theorem dX11_digest_218 : decode cX11_digest 218 = .ok (.iinc 3 1, 3) := by decide +kernel
theorem dX11_digest_221 : decode cX11_digest 221 = .ok (.goto (-22), 3) := by decide +kernel
theorem dX11_digest_224 : decode cX11_digest 224 = .ok (.iconst 0, 1) := by decide +kernel
theorem dX11_digest_225 : decode cX11_digest 225 = .ok (.istore_n 3, 1) := by decide +kernel
theorem dX11_digest_226 : decode cX11_digest 226 = .ok (.iload_n 3, 1) := by decide +kernel
theorem dX11_digest_227 : decode cX11_digest 227 = .ok (.bipush 7, 2) := by decide +kernel
theorem dX11_digest_229 : decode cX11_digest 229 = .ok (.if_icmp .ge 19, 3) := by decide +kernel
theorem dX11_digest_232 : decode cX11_digest 232 = .ok (.aload_n 0, 1) := by decide +kernel
theorem dX11_digest_233 : decode cX11_digest 233 = .ok (.aload_n 0, 1) := by decide +kernel
theorem dX11_digest_234 : decode cX11_digest 234 = .ok (.iload_n 3, 1) := by decide +kernel
theorem dX11_digest_235 : decode cX11_digest 235 = .ok (.invokevirtual 302, 3) := by decide +kernel
theorem dX11_digest_238 : decode cX11_digest 238 = .ok (.i2l, 1) := by decide +kernel
theorem dX11_digest_239 : decode cX11_digest 239 = .ok (.invokevirtual 313, 3) := by decide +kernel
theorem dX11_digest_242 : decode cX11_digest 242 = .ok (.iinc 3 1, 3) := by decide +kernel
theorem dX11_digest_245 : decode cX11_digest 245 = .ok (.goto (-19), 3) := by decide +kernel
theorem dX11_digest_248 : decode cX11_digest 248 = .ok (.aload_n 0, 1) := by decide +kernel
theorem dX11_digest_249 : decode cX11_digest 249 = .ok (.getfield 307, 3) := by decide +kernel
theorem dX11_digest_252 : decode cX11_digest 252 = .ok (.lreturn, 1) := by decide +kernel

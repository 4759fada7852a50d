theorem dX11_init_0 : decode cX11_init 0 = .ok (.aload_n 0, 1) := by decide +kernel
theorem dX11_init_1 : decode cX11_init 1 = .ok (.invokespecial 1, 3) := by decide +kernel
theorem dX11_init_4 : decode cX11_init 4 = .ok (.aload_n 0, 1) := by decide +kernel
theorem dX11_init_5 : decode cX11_init 5 = .ok (.bipush 8, 2) := by decide +kernel
theorem dX11_init_7 : decode cX11_init 7 = .ok (.newarray .int, 2) := by decide +kernel
theorem dX11_init_9 : decode cX11_init 9 = .ok (.putfield 7, 3) := by decide +kernel
theorem dX11_init_12 : decode cX11_init 12 = .ok (.aload_n 0, 1) := by decide +kernel
theorem dX11_init_13 : decode cX11_init 13 = .ok (.bipush 12, 2) := by decide +kernel
theorem dX11_init_15 : decode cX11_init 15 = .ok (.newarray .int, 2) := by decide +kernel
theorem dX11_init_17 : decode cX11_init 17 = .ok (.putfield 13, 3) := by decide +kernel
theorem dX11_init_20 : decode cX11_init 20 = .ok (.aload_n 0, 1) := by decide +kernel
theorem dX11_init_21 : decode cX11_init 21 = .ok (.bipush 48, 2) := by decide +kernel
theorem dX11_init_23 : decode cX11_init 23 = .ok (.newarray .int, 2) := by decide +kernel
theorem dX11_init_25 : decode cX11_init 25 = .ok (.putfield 16, 3) := by decide +kernel
theorem dX11_init_28 : decode cX11_init 28 = .ok (.aload_n 0, 1) := by decide +kernel
theorem dX11_init_29 : decode cX11_init 29 = .ok (.bipush 60, 2) := by decide +kernel
theorem dX11_init_31 : decode cX11_init 31 = .ok (.newarray .byte, 2) := by decide +kernel
theorem dX11_init_33 : decode cX11_init 33 = .ok (.putfield 19, 3) := by decide +kernel
theorem dX11_init_36 : decode cX11_init 36 = .ok (.aload_n 0, 1) := by decide +kernel
theorem dX11_init_37 : decode cX11_init 37 = .ok (.sipush 360, 3) := by decide +kernel
theorem dX11_init_40 : decode cX11_init 40 = .ok (.newarray .byte, 2) := by decide +kernel
theorem dX11_init_42 : decode cX11_init 42 = .ok (.putfield 23, 3) := by decide +kernel
theorem dX11_init_45 : decode cX11_init 45 = .ok (.aload_n 0, 1) := by decide +kernel
theorem dX11_init_46 : decode cX11_init 46 = .ok (.bipush 6, 2) := by decide +kernel
theorem dX11_init_48 : decode cX11_init 48 = .ok (.newarray .int, 2) := by decide +kernel
theorem dX11_init_50 : decode cX11_init 50 = .ok (.putfield 26, 3) := by decide +kernel
theorem dX11_init_53 : decode cX11_init 53 = .ok (.aload_n 0, 1) := by decide +kernel
theorem dX11_init_54 : decode cX11_init 54 = .ok (.bipush 6, 2) := by decide +kernel
theorem dX11_init_56 : decode cX11_init 56 = .ok (.newarray .boolean, 2) := by decide +kernel
theorem dX11_init_58 : decode cX11_init 58 = .ok (.putfield 29, 3) := by decide +kernel
theorem dX11_init_61 : decode cX11_init 61 = .ok (.aload_n 0, 1) := by decide +kernel
theorem dX11_init_62 : decode cX11_init 62 = .ok (.sipush 480, 3) := by decide +kernel
theorem dX11_init_65 : decode cX11_init 65 = .ok (.newarray .byte, 2) := by decide +kernel
theorem dX11_init_67 : decode cX11_init 67 = .ok (.putfield 33, 3) := by decide +kernel
theorem dX11_init_70 : decode cX11_init 70 = .ok (.aload_n 0, 1) := by decide +kernel
theorem dX11_init_71 : decode cX11_init 71 = .ok (.bipush 8, 2) := by decide +kernel
theorem dX11_init_73 : decode cX11_init 73 = .ok (.newarray .int, 2) := by decide +kernel
theorem dX11_init_75 : decode cX11_init 75 = .ok (.putfield 36, 3) := by decide +kernel
theorem dX11_init_78 : decode cX11_init 78 = .ok (.aload_n 0, 1) := by decide +kernel
theorem dX11_init_79 : decode cX11_init 79 = .ok (.iconst 1, 1) := by decide +kernel
theorem dX11_init_80 : decode cX11_init 80 = .ok (.putfield 39, 3) := by decide +kernel
theorem dX11_init_83 : decode cX11_init 83 = .ok (.aload_n 0, 1) := by decide +kernel
theorem dX11_init_84 : decode cX11_init 84 = .ok (.iconst 5, 1) := by decide +kernel
theorem dX11_init_85 : decode cX11_init 85 = .ok (.putfield 43, 3) := by decide +kernel
theorem dX11_init_88 : decode cX11_init 88 = .ok (.aload_n 0, 1) := by decide +kernel
theorem dX11_init_89 : decode cX11_init 89 = .ok (.bipush 8, 2) := by decide +kernel
theorem dX11_init_91 : decode cX11_init 91 = .ok (.newarray .int, 2) := by decide +kernel
theorem dX11_init_93 : decode cX11_init 93 = .ok (.putfield 46, 3) := by decide +kernel
theorem dX11_init_96 : decode cX11_init 96 = .ok (.aload_n 0, 1) := by decide +kernel
theorem dX11_init_97 : decode cX11_init 97 = .ok (.bipush 61, 2) := by decide +kernel
theorem dX11_init_99 : decode cX11_init 99 = .ok (.newarray .boolean, 2) := by decide +kernel
theorem dX11_init_101 : decode cX11_init 101 = .ok (.putfield 49, 3) := by decide +kernel
theorem dX11_init_104 : decode cX11_init 104 = .ok (.aload_n 0, 1) := by decide +kernel
theorem dX11_init_105 : decode cX11_init 105 = .ok (.bipush 61, 2) := by decide +kernel
theorem dX11_init_107 : decode cX11_init 107 = .ok (.newarray .boolean, 2) := by decide +kernel
theorem dX11_init_109 : decode cX11_init 109 = .ok (.putfield 52, 3) := by decide +kernel
theorem dX11_init_112 : decode cX11_init 112 = .ok (.aload_n 0, 1) := by decide +kernel
theorem dX11_init_113 : decode cX11_init 113 = .ok (.bipush 61, 2) := by decide +kernel
theorem dX11_init_115 : decode cX11_init 115 = .ok (.newarray .boolean, 2) := by decide +kernel
theorem dX11_init_117 : decode cX11_init 117 = .ok (.putfield 55, 3) := by decide +kernel
theorem dX11_init_120 : decode cX11_init 120 = .ok (.aload_n 0, 1) := by decide +kernel
theorem dX11_init_121 : decode cX11_init 121 = .ok (.sipush 4096, 3) := by decide +kernel
theorem dX11_init_124 : decode cX11_init 124 = .ok (.newarray .long, 2) := by decide +kernel
theorem dX11_init_126 : decode cX11_init 126 = .ok (.putfield 58, 3) := by decide +kernel
theorem dX11_init_129 : decode cX11_init 129 = .ok (.aload_n 0, 1) := by decide +kernel
theorem dX11_init_130 : decode cX11_init 130 = .ok (.sipush 4096, 3) := by decide +kernel
theorem dX11_init_133 : decode cX11_init 133 = .ok (.newarray .long, 2) := by decide +kernel
theorem dX11_init_135 : decode cX11_init 135 = .ok (.putfield 62, 3) := by decide +kernel
theorem dX11_init_138 : decode cX11_init 138 = .ok (.aload_n 0, 1) := by decide +kernel
theorem dX11_init_139 : decode cX11_init 139 = .ok (.sipush 4096, 3) := by decide +kernel
theorem dX11_init_142 : decode cX11_init 142 = .ok (.newarray .int, 2) := by decide +kernel
theorem dX11_init_144 : decode cX11_init 144 = .ok (.putfield 65, 3) := by decide +kernel
theorem dX11_init_147 : decode cX11_init 147 = .ok (.aload_n 0, 1) := by decide +kernel
theorem dX11_init_148 : decode cX11_init 148 = .ok (.sipush 4096, 3) := by decide +kernel
theorem dX11_init_151 : decode cX11_init 151 = .ok (.newarray .int, 2) := by decide +kernel
theorem dX11_init_153 : decode cX11_init 153 = .ok (.putfield 68, 3) := by decide +kernel
theorem dX11_init_156 : decode cX11_init 156 = .ok (.aload_n 0, 1) := by decide +kernel
theorem dX11_init_157 : decode cX11_init 157 = .ok (.sipush 4096, 3) := by decide +kernel
theorem dX11_init_160 : decode cX11_init 160 = .ok (.newarray .boolean, 2) := by decide +kernel
theorem dX11_init_162 : decode cX11_init 162 = .ok (.putfield 71, 3) := by decide +kernel
theorem dX11_init_165 : decode cX11_init 165 = .ok (.aload_n 0, 1) := by decide +kernel
theorem dX11_init_166 : decode cX11_init 166 = .ok (.bipush 12, 2) := by decide +kernel
theorem dX11_init_168 : decode cX11_init 168 = .ok (.newarray .int, 2) := by decide +kernel
theorem dX11_init_170 : decode cX11_init 170 = .ok (.putfield 74, 3) := by decide +kernel
theorem dX11_init_173 : decode cX11_init 173 = .ok (.aload_n 0, 1) := by decide +kernel
theorem dX11_init_174 : decode cX11_init 174 = .ok (.bipush 12, 2) := by decide +kernel
theorem dX11_init_176 : decode cX11_init 176 = .ok (.newarray .int, 2) := by decide +kernel
theorem dX11_init_178 : decode cX11_init 178 = .ok (.putfield 77, 3) := by decide +kernel
theorem dX11_init_181 : decode cX11_init 181 = .ok (.aload_n 0, 1) := by decide +kernel
theorem dX11_init_182 : decode cX11_init 182 = .ok (.bipush 26, 2) := by decide +kernel
theorem dX11_init_184 : decode cX11_init 184 = .ok (.newarray .int, 2) := by decide +kernel
theorem dX11_init_186 : decode cX11_init 186 = .ok (.putfield 80, 3) := by decide +kernel
theorem dX11_init_189 : decode cX11_init 189 = .ok (.aload_n 0, 1) := by decide +kernel
theorem dX11_init_190 : decode cX11_init 190 = .ok (.sipush 8192, 3) := by decide +kernel
theorem dX11_init_193 : decode cX11_init 193 = .ok (.newarray .int, 2) := by decide +kernel
theorem dX11_init_195 : decode cX11_init 195 = .ok (.putfield 83, 3) := by decide +kernel
theorem dX11_init_198 : decode cX11_init 198 = .ok (.aload_n 0, 1) := by decide +kernel
theorem dX11_init_199 : decode cX11_init 199 = .ok (.sipush 8192, 3) := by decide +kernel
theorem dX11_init_202 : decode cX11_init 202 = .ok (.newarray .int, 2) := by decide +kernel
theorem dX11_init_204 : decode cX11_init 204 = .ok (.putfield 86, 3) := by decide +kernel
theorem dX11_init_207 : decode cX11_init 207 = .ok (.return_, 1) := by decide +kernel
theorem dX11_in_0 : decode cX11_in 0 = .ok (.iload_n 0, 1) := by decide +kernel
theorem dX11_in_1 : decode cX11_in 1 = .ok (.iload_n 1, 1) := by decide +kernel
theorem dX11_in_2 : decode cX11_in 2 = .ok (.if_icmp .lt 12, 3) := by decide +kernel
theorem dX11_in_5 : decode cX11_in 5 = .ok (.iload_n 0, 1) := by decide +kernel
theorem dX11_in_6 : decode cX11_in 6 = .ok (.iload_n 2, 1) := by decide +kernel
theorem dX11_in_7 : decode cX11_in 7 = .ok (.if_icmp .gt 7, 3) := by decide +kernel
theorem dX11_in_10 : decode cX11_in 10 = .ok (.iconst 1, 1) := by decide +kernel
theorem dX11_in_11 : decode cX11_in 11 = .ok (.goto 4, 3) := by decide +kernel
theorem dX11_in_14 : decode cX11_in 14 = .ok (.iconst 0, 1) := by decide +kernel
theorem dX11_in_15 : decode cX11_in 15 = .ok (.ireturn, 1) := by decide +kernel
theorem dX11_isSector_0 : decode cX11_isSector 0 = .ok (.iload_n 0, 1) := by decide +kernel
theorem dX11_isSector_1 : decode cX11_isSector 1 = .ok (.iconst 0, 1) := by decide +kernel
theorem dX11_isSector_2 : decode cX11_isSector 2 = .ok (.bipush 7, 2) := by decide +kernel
theorem dX11_isSector_4 : decode cX11_isSector 4 = .ok (.invokestatic 89, 3) := by decide +kernel
theorem dX11_isSector_7 : decode cX11_isSector 7 = .ok (.ireturn, 1) := by decide +kernel
theorem dX11_isNumber_0 : decode cX11_isNumber 0 = .ok (.iload_n 0, 1) := by decide +kernel
theorem dX11_isNumber_1 : decode cX11_isNumber 1 = .ok (.iconst 0, 1) := by decide +kernel
theorem dX11_isNumber_2 : decode cX11_isNumber 2 = .ok (.bipush 99, 2) := by decide +kernel
theorem dX11_isNumber_4 : decode cX11_isNumber 4 = .ok (.invokestatic 89, 3) := by decide +kernel
theorem dX11_isNumber_7 : decode cX11_isNumber 7 = .ok (.ireturn, 1) := by decide +kernel
theorem dX11_sector_0 : decode cX11_sector 0 = .ok (.iload_n 1, 1) := by decide +kernel
theorem dX11_sector_1 : decode cX11_sector 1 = .ok (.invokestatic 93, 3) := by decide +kernel
theorem dX11_sector_4 : decode cX11_sector 4 = .ok (.ifCond .ne 6, 3) := by decide +kernel
theorem dX11_sector_7 : decode cX11_sector 7 = .ok (.bipush (-101), 2) := by decide +kernel
theorem dX11_sector_9 : decode cX11_sector 9 = .ok (.ireturn, 1) := by decide +kernel
theorem dX11_sector_10 : decode cX11_sector 10 = .ok (.iload_n 2, 1) := by decide +kernel
theorem dX11_sector_11 : decode cX11_sector 11 = .ok (.invokestatic 97, 3) := by decide +kernel
theorem dX11_sector_14 : decode cX11_sector 14 = .ok (.ifCond .ne 6, 3) := by decide +kernel
theorem dX11_sector_17 : decode cX11_sector 17 = .ok (.bipush (-102), 2) := by decide +kernel
theorem dX11_sector_19 : decode cX11_sector 19 = .ok (.ireturn, 1) := by decide +kernel
theorem dX11_sector_20 : decode cX11_sector 20 = .ok (.aload_n 0, 1) := by decide +kernel
theorem dX11_sector_21 : decode cX11_sector 21 = .ok (.getfield 7, 3) := by decide +kernel
theorem dX11_sector_24 : decode cX11_sector 24 = .ok (.iload_n 1, 1) := by decide +kernel
theorem dX11_sector_25 : decode cX11_sector 25 = .ok (.iaload, 1) := by decide +kernel
theorem dX11_sector_26 : decode cX11_sector 26 = .ok (.istore_n 3, 1) := by decide +kernel
theorem dX11_sector_27 : decode cX11_sector 27 = .ok (.aload_n 0, 1) := by decide +kernel
theorem dX11_sector_28 : decode cX11_sector 28 = .ok (.getfield 7, 3) := by decide +kernel
theorem dX11_sector_31 : decode cX11_sector 31 = .ok (.iload_n 1, 1) := by decide +kernel
theorem dX11_sector_32 : decode cX11_sector 32 = .ok (.iload_n 2, 1) := by decide +kernel
theorem dX11_sector_33 : decode cX11_sector 33 = .ok (.iastore, 1) := by decide +kernel
theorem dX11_sector_34 : decode cX11_sector 34 = .ok (.aload_n 0, 1) := by decide +kernel
theorem dX11_sector_35 : decode cX11_sector 35 = .ok (.iconst 0, 1) := by decide +kernel
theorem dX11_sector_36 : decode cX11_sector 36 = .ok (.putfield 100, 3) := by decide +kernel
theorem dX11_sector_39 : decode cX11_sector 39 = .ok (.iload_n 3, 1) := by decide +kernel
theorem dX11_sector_40 : decode cX11_sector 40 = .ok (.ireturn, 1) := by decide +kernel
theorem dX11_come_0 : decode cX11_come 0 = .ok (.aload_n 0, 1) := by decide +kernel
theorem dX11_come_1 : decode cX11_come 1 = .ok (.getfield 104, 3) := by decide +kernel
theorem dX11_come_4 : decode cX11_come 4 = .ok (.bipush 12, 2) := by decide +kernel
theorem dX11_come_6 : decode cX11_come 6 = .ok (.if_icmp .ne 6, 3) := by decide +kernel
theorem dX11_come_9 : decode cX11_come 9 = .ok (.bipush (-104), 2) := by decide +kernel
theorem dX11_come_11 : decode cX11_come 11 = .ok (.ireturn, 1) := by decide +kernel
theorem dX11_come_12 : decode cX11_come 12 = .ok (.aload_n 0, 1) := by decide +kernel
theorem dX11_come_13 : decode cX11_come 13 = .ok (.getfield 13, 3) := by decide +kernel
theorem dX11_come_16 : decode cX11_come 16 = .ok (.aload_n 0, 1) := by decide +kernel
theorem dX11_come_17 : decode cX11_come 17 = .ok (.getfield 104, 3) := by decide +kernel
theorem dX11_come_20 : decode cX11_come 20 = .ok (.iload_n 1, 1) := by decide +kernel
theorem dX11_come_21 : decode cX11_come 21 = .ok (.iastore, 1) := by decide +kernel
theorem dX11_come_22 : decode cX11_come 22 = .ok (.aload_n 0, 1) := by decide +kernel
theorem dX11_come_23 : decode cX11_come 23 = .ok (.getfield 16, 3) := by decide +kernel
theorem dX11_come_26 : decode cX11_come 26 = .ok (.iconst 4, 1) := by decide +kernel
theorem dX11_come_27 : decode cX11_come 27 = .ok (.aload_n 0, 1) := by decide +kernel
theorem dX11_come_28 : decode cX11_come 28 = .ok (.getfield 104, 3) := by decide +kernel
theorem dX11_come_31 : decode cX11_come 31 = .ok (.imul, 1) := by decide +kernel
theorem dX11_come_32 : decode cX11_come 32 = .ok (.iload_n 2, 1) := by decide +kernel
theorem dX11_come_33 : decode cX11_come 33 = .ok (.iastore, 1) := by decide +kernel
theorem dX11_come_34 : decode cX11_come 34 = .ok (.aload_n 0, 1) := by decide +kernel
theorem dX11_come_35 : decode cX11_come 35 = .ok (.getfield 16, 3) := by decide +kernel
theorem dX11_come_38 : decode cX11_come 38 = .ok (.iconst 4, 1) := by decide +kernel
theorem dX11_come_39 : decode cX11_come 39 = .ok (.aload_n 0, 1) := by decide +kernel
theorem dX11_come_40 : decode cX11_come 40 = .ok (.getfield 104, 3) := by decide +kernel
theorem dX11_come_43 : decode cX11_come 43 = .ok (.imul, 1) := by decide +kernel
theorem dX11_come_44 : decode cX11_come 44 = .ok (.iconst 1, 1) := by decide +kernel
theorem dX11_come_45 : decode cX11_come 45 = .ok (.iadd, 1) := by decide +kernel
theorem dX11_come_46 : decode cX11_come 46 = .ok (.iload_n 3, 1) := by decide +kernel
theorem dX11_come_47 : decode cX11_come 47 = .ok (.iastore, 1) := by decide +kernel
theorem dX11_come_48 : decode cX11_come 48 = .ok (.aload_n 0, 1) := by decide +kernel
theorem dX11_come_49 : decode cX11_come 49 = .ok (.getfield 16, 3) := by decide +kernel
theorem dX11_come_52 : decode cX11_come 52 = .ok (.iconst 4, 1) := by decide +kernel
theorem dX11_come_53 : decode cX11_come 53 = .ok (.aload_n 0, 1) := by decide +kernel
theorem dX11_come_54 : decode cX11_come 54 = .ok (.getfield 104, 3) := by decide +kernel
theorem dX11_come_57 : decode cX11_come 57 = .ok (.imul, 1) := by decide +kernel
theorem dX11_come_58 : decode cX11_come 58 = .ok (.iconst 2, 1) := by decide +kernel
theorem dX11_come_59 : decode cX11_come 59 = .ok (.iadd, 1) := by decide +kernel
theorem dX11_come_60 : decode cX11_come 60 = .ok (.iload 4, 2) := by decide +kernel
theorem dX11_come_62 : decode cX11_come 62 = .ok (.iastore, 1) := by decide +kernel
theorem dX11_come_63 : decode cX11_come 63 = .ok (.aload_n 0, 1) := by decide +kernel
theorem dX11_come_64 : decode cX11_come 64 = .ok (.getfield 16, 3) := by decide +kernel
theorem dX11_come_67 : decode cX11_come 67 = .ok (.iconst 4, 1) := by decide +kernel
theorem dX11_come_68 : decode cX11_come 68 = .ok (.aload_n 0, 1) := by decide +kernel
theorem dX11_come_69 : decode cX11_come 69 = .ok (.getfield 104, 3) := by decide +kernel
theorem dX11_come_72 : decode cX11_come 72 = .ok (.imul, 1) := by decide +kernel
theorem dX11_come_73 : decode cX11_come 73 = .ok (.iconst 3, 1) := by decide +kernel
theorem dX11_come_74 : decode cX11_come 74 = .ok (.iadd, 1) := by decide +kernel
theorem dX11_come_75 : decode cX11_come 75 = .ok (.iload 5, 2) := by decide +kernel
theorem dX11_come_77 : decode cX11_come 77 = .ok (.iastore, 1) := by decide +kernel
theorem dX11_come_78 : decode cX11_come 78 = .ok (.aload_n 0, 1) := by decide +kernel
theorem dX11_come_79 : decode cX11_come 79 = .ok (.dup, 1) := by decide +kernel
theorem dX11_come_80 : decode cX11_come 80 = .ok (.getfield 104, 3) := by decide +kernel
theorem dX11_come_83 : decode cX11_come 83 = .ok (.iconst 1, 1) := by decide +kernel
theorem dX11_come_84 : decode cX11_come 84 = .ok (.iadd, 1) := by decide +kernel
theorem dX11_come_85 : decode cX11_come 85 = .ok (.putfield 104, 3) := by decide +kernel
theorem dX11_come_88 : decode cX11_come 88 = .ok (.aload_n 0, 1) := by decide +kernel
theorem dX11_come_89 : decode cX11_come 89 = .ok (.iconst 0, 1) := by decide +kernel
theorem dX11_come_90 : decode cX11_come 90 = .ok (.putfield 100, 3) := by decide +kernel
theorem dX11_come_93 : decode cX11_come 93 = .ok (.aload_n 0, 1) := by decide +kernel
theorem dX11_come_94 : decode cX11_come 94 = .ok (.getfield 104, 3) := by decide +kernel
theorem dX11_come_97 : decode cX11_come 97 = .ok (.iconst 1, 1) := by decide +kernel
theorem dX11_come_98 : decode cX11_come 98 = .ok (.isub, 1) := by decide +kernel
theorem dX11_come_99 : decode cX11_come 99 = .ok (.ireturn, 1) := by decide +kernel
theorem dX11_write_0 : decode cX11_write 0 = .ok (.iload_n 1, 1) := by decide +kernel
theorem dX11_write_1 : decode cX11_write 1 = .ok (.invokestatic 93, 3) := by decide +kernel
theorem dX11_write_4 : decode cX11_write 4 = .ok (.ifCond .ne 6, 3) := by decide +kernel
theorem dX11_write_7 : decode cX11_write 7 = .ok (.bipush (-101), 2) := by decide +kernel
theorem dX11_write_9 : decode cX11_write 9 = .ok (.ireturn, 1) := by decide +kernel
theorem dX11_write_10 : decode cX11_write 10 = .ok (.iload_n 2, 1) := by decide +kernel
theorem dX11_write_11 : decode cX11_write 11 = .ok (.invokestatic 97, 3) := by decide +kernel
theorem dX11_write_14 : decode cX11_write 14 = .ok (.ifCond .eq 15, 3) := by decide +kernel
theorem dX11_write_17 : decode cX11_write 17 = .ok (.aload_n 0, 1) := by decide +kernel
theorem dX11_write_18 : decode cX11_write 18 = .ok (.iconst 0, 1) := by decide +kernel
theorem dX11_write_19 : decode cX11_write 19 = .ok (.iload_n 1, 1) := by decide +kernel
theorem dX11_write_20 : decode cX11_write 20 = .ok (.iload_n 2, 1) := by decide +kernel
theorem dX11_write_21 : decode cX11_write 21 = .ok (.iconst (-1), 1) := by decide +kernel
theorem dX11_write_22 : decode cX11_write 22 = .ok (.iconst (-1), 1) := by decide +kernel
theorem dX11_write_23 : decode cX11_write 23 = .ok (.invokevirtual 107, 3) := by decide +kernel
theorem dX11_write_26 : decode cX11_write 26 = .ok (.goto 5, 3) := by decide +kernel
theorem dX11_write_29 : decode cX11_write 29 = .ok (.bipush (-102), 2) := by decide +kernel
theorem dX11_write_31 : decode cX11_write 31 = .ok (.ireturn, 1) := by decide +kernel
theorem dX11_whole_0 : decode cX11_whole 0 = .ok (.iload_n 1, 1) := by decide +kernel
theorem dX11_whole_1 : decode cX11_whole 1 = .ok (.invokestatic 93, 3) := by decide +kernel
theorem dX11_whole_4 : decode cX11_whole 4 = .ok (.ifCond .eq 15, 3) := by decide +kernel
theorem dX11_whole_7 : decode cX11_whole 7 = .ok (.iload_n 3, 1) := by decide +kernel
theorem dX11_whole_8 : decode cX11_whole 8 = .ok (.invokestatic 93, 3) := by decide +kernel
theorem dX11_whole_11 : decode cX11_whole 11 = .ok (.ifCond .eq 8, 3) := by decide +kernel
theorem dX11_whole_14 : decode cX11_whole 14 = .ok (.iload_n 1, 1) := by decide +kernel
theorem dX11_whole_15 : decode cX11_whole 15 = .ok (.iload_n 3, 1) := by decide +kernel
theorem dX11_whole_16 : decode cX11_whole 16 = .ok (.if_icmp .ne 6, 3) := by decide +kernel
theorem dX11_whole_19 : decode cX11_whole 19 = .ok (.bipush (-101), 2) := by decide +kernel
theorem dX11_whole_21 : decode cX11_whole 21 = .ok (.ireturn, 1) := by decide +kernel
theorem dX11_whole_22 : decode cX11_whole 22 = .ok (.iload_n 2, 1) := by decide +kernel
theorem dX11_whole_23 : decode cX11_whole 23 = .ok (.invokestatic 97, 3) := by decide +kernel
theorem dX11_whole_26 : decode cX11_whole 26 = .ok (.ifCond .eq 24, 3) := by decide +kernel
theorem dX11_whole_29 : decode cX11_whole 29 = .ok (.iload 4, 2) := by decide +kernel
theorem dX11_whole_31 : decode cX11_whole 31 = .ok (.invokestatic 97, 3) := by decide +kernel
theorem dX11_whole_34 : decode cX11_whole 34 = .ok (.ifCond .eq 16, 3) := by decide +kernel
theorem dX11_whole_37 : decode cX11_whole 37 = .ok (.aload_n 0, 1) := by decide +kernel
theorem dX11_whole_38 : decode cX11_whole 38 = .ok (.iconst 1, 1) := by decide +kernel
theorem dX11_whole_39 : decode cX11_whole 39 = .ok (.iload_n 1, 1) := by decide +kernel
theorem dX11_whole_40 : decode cX11_whole 40 = .ok (.iload_n 2, 1) := by decide +kernel
theorem dX11_whole_41 : decode cX11_whole 41 = .ok (.iload_n 3, 1) := by decide +kernel
theorem dX11_whole_42 : decode cX11_whole 42 = .ok (.iload 4, 2) := by decide +kernel
theorem dX11_whole_44 : decode cX11_whole 44 = .ok (.invokevirtual 107, 3) := by decide +kernel
theorem dX11_whole_47 : decode cX11_whole 47 = .ok (.goto 5, 3) := by decide +kernel
theorem dX11_whole_50 : decode cX11_whole 50 = .ok (.bipush (-102), 2) := by decide +kernel
theorem dX11_whole_52 : decode cX11_whole 52 = .ok (.ireturn, 1) := by decide +kernel
theorem dX11_barrier_0 : decode cX11_barrier 0 = .ok (.aload_n 0, 1) := by decide +kernel
theorem dX11_barrier_1 : decode cX11_barrier 1 = .ok (.iconst 2, 1) := by decide +kernel
theorem dX11_barrier_2 : decode cX11_barrier 2 = .ok (.iconst (-1), 1) := by decide +kernel
theorem dX11_barrier_3 : decode cX11_barrier 3 = .ok (.iconst (-1), 1) := by decide +kernel
theorem dX11_barrier_4 : decode cX11_barrier 4 = .ok (.iconst (-1), 1) := by decide +kernel
theorem dX11_barrier_5 : decode cX11_barrier 5 = .ok (.iconst (-1), 1) := by decide +kernel
theorem dX11_barrier_6 : decode cX11_barrier 6 = .ok (.invokevirtual 107, 3) := by decide +kernel
theorem dX11_barrier_9 : decode cX11_barrier 9 = .ok (.ireturn, 1) := by decide +kernel
theorem dX11_flush_0 : decode cX11_flush 0 = .ok (.aload_n 0, 1) := by decide +kernel
theorem dX11_flush_1 : decode cX11_flush 1 = .ok (.iconst 3, 1) := by decide +kernel
theorem dX11_flush_2 : decode cX11_flush 2 = .ok (.iconst (-1), 1) := by decide +kernel
theorem dX11_flush_3 : decode cX11_flush 3 = .ok (.iconst (-1), 1) := by decide +kernel
theorem dX11_flush_4 : decode cX11_flush 4 = .ok (.iconst (-1), 1) := by decide +kernel
theorem dX11_flush_5 : decode cX11_flush 5 = .ok (.iconst (-1), 1) := by decide +kernel
theorem dX11_flush_6 : decode cX11_flush 6 = .ok (.invokevirtual 107, 3) := by decide +kernel
theorem dX11_flush_9 : decode cX11_flush 9 = .ok (.ireturn, 1) := by decide +kernel
theorem dX11_tell_0 : decode cX11_tell 0 = .ok (.iload_n 1, 1) := by decide +kernel
theorem dX11_tell_1 : decode cX11_tell 1 = .ok (.iconst 0, 1) := by decide +kernel
theorem dX11_tell_2 : decode cX11_tell 2 = .ok (.aload_n 0, 1) := by decide +kernel
theorem dX11_tell_3 : decode cX11_tell 3 = .ok (.getfield 111, 3) := by decide +kernel
theorem dX11_tell_6 : decode cX11_tell 6 = .ok (.iconst 1, 1) := by decide +kernel
theorem dX11_tell_7 : decode cX11_tell 7 = .ok (.isub, 1) := by decide +kernel
theorem dX11_tell_8 : decode cX11_tell 8 = .ok (.invokestatic 89, 3) := by decide +kernel
theorem dX11_tell_11 : decode cX11_tell 11 = .ok (.ifCond .eq 15, 3) := by decide +kernel
theorem dX11_tell_14 : decode cX11_tell 14 = .ok (.aload_n 0, 1) := by decide +kernel
theorem dX11_tell_15 : decode cX11_tell 15 = .ok (.iconst 4, 1) := by decide +kernel
theorem dX11_tell_16 : decode cX11_tell 16 = .ok (.iload_n 1, 1) := by decide +kernel
theorem dX11_tell_17 : decode cX11_tell 17 = .ok (.iconst (-1), 1) := by decide +kernel
theorem dX11_tell_18 : decode cX11_tell 18 = .ok (.iconst (-1), 1) := by decide +kernel
theorem dX11_tell_19 : decode cX11_tell 19 = .ok (.iconst (-1), 1) := by decide +kernel
theorem dX11_tell_20 : decode cX11_tell 20 = .ok (.invokevirtual 107, 3) := by decide +kernel
theorem dX11_tell_23 : decode cX11_tell 23 = .ok (.goto 5, 3) := by decide +kernel
theorem dX11_tell_26 : decode cX11_tell 26 = .ok (.bipush (-101), 2) := by decide +kernel
theorem dX11_tell_28 : decode cX11_tell 28 = .ok (.ireturn, 1) := by decide +kernel
theorem dX11_undo_0 : decode cX11_undo 0 = .ok (.aload_n 0, 1) := by decide +kernel
theorem dX11_undo_1 : decode cX11_undo 1 = .ok (.getfield 104, 3) := by decide +kernel
theorem dX11_undo_4 : decode cX11_undo 4 = .ok (.ifCond .ne 6, 3) := by decide +kernel
theorem dX11_undo_7 : decode cX11_undo 7 = .ok (.bipush (-103), 2) := by decide +kernel
theorem dX11_undo_9 : decode cX11_undo 9 = .ok (.ireturn, 1) := by decide +kernel
theorem dX11_undo_10 : decode cX11_undo 10 = .ok (.aload_n 0, 1) := by decide +kernel
theorem dX11_undo_11 : decode cX11_undo 11 = .ok (.dup, 1) := by decide +kernel
theorem dX11_undo_12 : decode cX11_undo 12 = .ok (.getfield 104, 3) := by decide +kernel
theorem dX11_undo_15 : decode cX11_undo 15 = .ok (.iconst 1, 1) := by decide +kernel
theorem dX11_undo_16 : decode cX11_undo 16 = .ok (.isub, 1) := by decide +kernel
theorem dX11_undo_17 : decode cX11_undo 17 = .ok (.putfield 104, 3) := by decide +kernel
theorem dX11_undo_20 : decode cX11_undo 20 = .ok (.aload_n 0, 1) := by decide +kernel
theorem dX11_undo_21 : decode cX11_undo 21 = .ok (.iconst 0, 1) := by decide +kernel
theorem dX11_undo_22 : decode cX11_undo 22 = .ok (.putfield 100, 3) := by decide +kernel
theorem dX11_undo_25 : decode cX11_undo 25 = .ok (.aload_n 0, 1) := by decide +kernel
theorem dX11_undo_26 : decode cX11_undo 26 = .ok (.getfield 104, 3) := by decide +kernel
theorem dX11_undo_29 : decode cX11_undo 29 = .ok (.ireturn, 1) := by decide +kernel
theorem dX11_swap_0 : decode cX11_swap 0 = .ok (.iload_n 1, 1) := by decide +kernel
theorem dX11_swap_1 : decode cX11_swap 1 = .ok (.iconst 0, 1) := by decide +kernel
theorem dX11_swap_2 : decode cX11_swap 2 = .ok (.aload_n 0, 1) := by decide +kernel
theorem dX11_swap_3 : decode cX11_swap 3 = .ok (.getfield 104, 3) := by decide +kernel
theorem dX11_swap_6 : decode cX11_swap 6 = .ok (.iconst 1, 1) := by decide +kernel
theorem dX11_swap_7 : decode cX11_swap 7 = .ok (.isub, 1) := by decide +kernel
theorem dX11_swap_8 : decode cX11_swap 8 = .ok (.invokestatic 89, 3) := by decide +kernel
theorem dX11_swap_11 : decode cX11_swap 11 = .ok (.ifCond .eq 17, 3) := by decide +kernel
theorem dX11_swap_14 : decode cX11_swap 14 = .ok (.iload_n 2, 1) := by decide +kernel
theorem dX11_swap_15 : decode cX11_swap 15 = .ok (.iconst 0, 1) := by decide +kernel
theorem dX11_swap_16 : decode cX11_swap 16 = .ok (.aload_n 0, 1) := by decide +kernel
theorem dX11_swap_17 : decode cX11_swap 17 = .ok (.getfield 104, 3) := by decide +kernel
theorem dX11_swap_20 : decode cX11_swap 20 = .ok (.iconst 1, 1) := by decide +kernel
theorem dX11_swap_21 : decode cX11_swap 21 = .ok (.isub, 1) := by decide +kernel
theorem dX11_swap_22 : decode cX11_swap 22 = .ok (.invokestatic 89, 3) := by decide +kernel
theorem dX11_swap_25 : decode cX11_swap 25 = .ok (.ifCond .ne 6, 3) := by decide +kernel
theorem dX11_swap_28 : decode cX11_swap 28 = .ok (.bipush (-101), 2) := by decide +kernel
theorem dX11_swap_30 : decode cX11_swap 30 = .ok (.ireturn, 1) := by decide +kernel
theorem dX11_swap_31 : decode cX11_swap 31 = .ok (.aload_n 0, 1) := by decide +kernel
theorem dX11_swap_32 : decode cX11_swap 32 = .ok (.getfield 13, 3) := by decide +kernel
theorem dX11_swap_35 : decode cX11_swap 35 = .ok (.iload_n 1, 1) := by decide +kernel
theorem dX11_swap_36 : decode cX11_swap 36 = .ok (.iaload, 1) := by decide +kernel
theorem dX11_swap_37 : decode cX11_swap 37 = .ok (.istore_n 3, 1) := by decide +kernel
theorem dX11_swap_38 : decode cX11_swap 38 = .ok (.aload_n 0, 1) := by decide +kernel
theorem dX11_swap_39 : decode cX11_swap 39 = .ok (.getfield 13, 3) := by decide +kernel
theorem dX11_swap_42 : decode cX11_swap 42 = .ok (.iload_n 1, 1) := by decide +kernel
theorem dX11_swap_43 : decode cX11_swap 43 = .ok (.aload_n 0, 1) := by decide +kernel
theorem dX11_swap_44 : decode cX11_swap 44 = .ok (.getfield 13, 3) := by decide +kernel
theorem dX11_swap_47 : decode cX11_swap 47 = .ok (.iload_n 2, 1) := by decide +kernel
theorem dX11_swap_48 : decode cX11_swap 48 = .ok (.iaload, 1) := by decide +kernel
theorem dX11_swap_49 : decode cX11_swap 49 = .ok (.iastore, 1) := by decide +kernel
theorem dX11_swap_50 : decode cX11_swap 50 = .ok (.aload_n 0, 1) := by decide +kernel
theorem dX11_swap_51 : decode cX11_swap 51 = .ok (.getfield 13, 3) := by decide +kernel
theorem dX11_swap_54 : decode cX11_swap 54 = .ok (.iload_n 2, 1) := by decide +kernel
theorem dX11_swap_55 : decode cX11_swap 55 = .ok (.iload_n 3, 1) := by decide +kernel
theorem dX11_swap_56 : decode cX11_swap 56 = .ok (.iastore, 1) := by decide +kernel
theorem dX11_swap_57 : decode cX11_swap 57 = .ok (.iconst 0, 1) := by decide +kernel
theorem dX11_swap_58 : decode cX11_swap 58 = .ok (.istore 4, 2) := by decide +kernel
theorem dX11_swap_60 : decode cX11_swap 60 = .ok (.iload 4, 2) := by decide +kernel
theorem dX11_swap_62 : decode cX11_swap 62 = .ok (.iconst 4, 1) := by decide +kernel
theorem dX11_swap_63 : decode cX11_swap 63 = .ok (.if_icmp .ge 57, 3) := by decide +kernel
theorem dX11_swap_66 : decode cX11_swap 66 = .ok (.aload_n 0, 1) := by decide +kernel
theorem dX11_swap_67 : decode cX11_swap 67 = .ok (.getfield 16, 3) := by decide +kernel
theorem dX11_swap_70 : decode cX11_swap 70 = .ok (.iconst 4, 1) := by decide +kernel
theorem dX11_swap_71 : decode cX11_swap 71 = .ok (.iload_n 1, 1) := by decide +kernel
theorem dX11_swap_72 : decode cX11_swap 72 = .ok (.imul, 1) := by decide +kernel
theorem dX11_swap_73 : decode cX11_swap 73 = .ok (.iload 4, 2) := by decide +kernel
theorem dX11_swap_75 : decode cX11_swap 75 = .ok (.iadd, 1) := by decide +kernel
theorem dX11_swap_76 : decode cX11_swap 76 = .ok (.iaload, 1) := by decide +kernel
theorem dX11_swap_77 : decode cX11_swap 77 = .ok (.istore 5, 2) := by decide +kernel
theorem dX11_swap_79 : decode cX11_swap 79 = .ok (.aload_n 0, 1) := by decide +kernel
theorem dX11_swap_80 : decode cX11_swap 80 = .ok (.getfield 16, 3) := by decide +kernel
theorem dX11_swap_83 : decode cX11_swap 83 = .ok (.iconst 4, 1) := by decide +kernel
theorem dX11_swap_84 : decode cX11_swap 84 = .ok (.iload_n 1, 1) := by decide +kernel
theorem dX11_swap_85 : decode cX11_swap 85 = .ok (.imul, 1) := by decide +kernel
theorem dX11_swap_86 : decode cX11_swap 86 = .ok (.iload 4, 2) := by decide +kernel
theorem dX11_swap_88 : decode cX11_swap 88 = .ok (.iadd, 1) := by decide +kernel
theorem dX11_swap_89 : decode cX11_swap 89 = .ok (.aload_n 0, 1) := by decide +kernel
theorem dX11_swap_90 : decode cX11_swap 90 = .ok (.getfield 16, 3) := by decide +kernel
theorem dX11_swap_93 : decode cX11_swap 93 = .ok (.iconst 4, 1) := by decide +kernel
theorem dX11_swap_94 : decode cX11_swap 94 = .ok (.iload_n 2, 1) := by decide +kernel
theorem dX11_swap_95 : decode cX11_swap 95 = .ok (.imul, 1) := by decide +kernel
theorem dX11_swap_96 : decode cX11_swap 96 = .ok (.iload 4, 2) := by decide +kernel
theorem dX11_swap_98 : decode cX11_swap 98 = .ok (.iadd, 1) := by decide +kernel
theorem dX11_swap_99 : decode cX11_swap 99 = .ok (.iaload, 1) := by decide +kernel
theorem dX11_swap_100 : decode cX11_swap 100 = .ok (.iastore, 1) := by decide +kernel
theorem dX11_swap_101 : decode cX11_swap 101 = .ok (.aload_n 0, 1) := by decide +kernel
theorem dX11_swap_102 : decode cX11_swap 102 = .ok (.getfield 16, 3) := by decide +kernel
theorem dX11_swap_105 : decode cX11_swap 105 = .ok (.iconst 4, 1) := by decide +kernel
theorem dX11_swap_106 : decode cX11_swap 106 = .ok (.iload_n 2, 1) := by decide +kernel
theorem dX11_swap_107 : decode cX11_swap 107 = .ok (.imul, 1) := by decide +kernel
theorem dX11_swap_108 : decode cX11_swap 108 = .ok (.iload 4, 2) := by decide +kernel
theorem dX11_swap_110 : decode cX11_swap 110 = .ok (.iadd, 1) := by decide +kernel
theorem dX11_swap_111 : decode cX11_swap 111 = .ok (.iload 5, 2) := by decide +kernel
theorem dX11_swap_113 : decode cX11_swap 113 = .ok (.iastore, 1) := by decide +kernel
theorem dX11_swap_114 : decode cX11_swap 114 = .ok (.iinc 4 1, 3) := by decide +kernel
theorem dX11_swap_117 : decode cX11_swap 117 = .ok (.goto (-57), 3) := by decide +kernel
theorem dX11_swap_120 : decode cX11_swap 120 = .ok (.aload_n 0, 1) := by decide +kernel
theorem dX11_swap_121 : decode cX11_swap 121 = .ok (.iconst 0, 1) := by decide +kernel
theorem dX11_swap_122 : decode cX11_swap 122 = .ok (.putfield 100, 3) := by decide +kernel
theorem dX11_swap_125 : decode cX11_swap 125 = .ok (.iconst 1, 1) := by decide +kernel
theorem dX11_swap_126 : decode cX11_swap 126 = .ok (.ireturn, 1) := by decide +kernel
theorem dX11_act_0 : decode cX11_act 0 = .ok (.iload_n 1, 1) := by decide +kernel
theorem dX11_act_1 : decode cX11_act 1 = .ok (.iconst 0, 1) := by decide +kernel
theorem dX11_act_2 : decode cX11_act 2 = .ok (.aload_n 0, 1) := by decide +kernel
theorem dX11_act_3 : decode cX11_act 3 = .ok (.getfield 104, 3) := by decide +kernel
theorem dX11_act_6 : decode cX11_act 6 = .ok (.iconst 1, 1) := by decide +kernel
theorem dX11_act_7 : decode cX11_act 7 = .ok (.isub, 1) := by decide +kernel
theorem dX11_act_8 : decode cX11_act 8 = .ok (.invokestatic 89, 3) := by decide +kernel
theorem dX11_act_11 : decode cX11_act 11 = .ok (.ifCond .ne 6, 3) := by decide +kernel
theorem dX11_act_14 : decode cX11_act 14 = .ok (.bipush (-101), 2) := by decide +kernel
theorem dX11_act_16 : decode cX11_act 16 = .ok (.ireturn, 1) := by decide +kernel
theorem dX11_act_17 : decode cX11_act 17 = .ok (.iload_n 2, 1) := by decide +kernel
theorem dX11_act_18 : decode cX11_act 18 = .ok (.ifCond .ne 12, 3) := by decide +kernel
theorem dX11_act_21 : decode cX11_act 21 = .ok (.aload_n 0, 1) := by decide +kernel
theorem dX11_act_22 : decode cX11_act 22 = .ok (.getfield 13, 3) := by decide +kernel
theorem dX11_act_25 : decode cX11_act 25 = .ok (.iload_n 1, 1) := by decide +kernel
theorem dX11_act_26 : decode cX11_act 26 = .ok (.iaload, 1) := by decide +kernel
theorem dX11_act_27 : decode cX11_act 27 = .ok (.goto 29, 3) := by decide +kernel
theorem dX11_act_30 : decode cX11_act 30 = .ok (.iload_n 2, 1) := by decide +kernel
theorem dX11_act_31 : decode cX11_act 31 = .ok (.iconst 1, 1) := by decide +kernel
theorem dX11_act_32 : decode cX11_act 32 = .ok (.iconst 4, 1) := by decide +kernel
theorem dX11_act_33 : decode cX11_act 33 = .ok (.invokestatic 89, 3) := by decide +kernel
theorem dX11_act_36 : decode cX11_act 36 = .ok (.ifCond .eq 18, 3) := by decide +kernel
theorem dX11_act_39 : decode cX11_act 39 = .ok (.aload_n 0, 1) := by decide +kernel
theorem dX11_act_40 : decode cX11_act 40 = .ok (.getfield 16, 3) := by decide +kernel
theorem dX11_act_43 : decode cX11_act 43 = .ok (.iconst 4, 1) := by decide +kernel
theorem dX11_act_44 : decode cX11_act 44 = .ok (.iload_n 1, 1) := by decide +kernel
theorem dX11_act_45 : decode cX11_act 45 = .ok (.imul, 1) := by decide +kernel
theorem dX11_act_46 : decode cX11_act 46 = .ok (.iload_n 2, 1) := by decide +kernel
theorem dX11_act_47 : decode cX11_act 47 = .ok (.iadd, 1) := by decide +kernel
theorem dX11_act_48 : decode cX11_act 48 = .ok (.iconst 1, 1) := by decide +kernel
theorem dX11_act_49 : decode cX11_act 49 = .ok (.isub, 1) := by decide +kernel
theorem dX11_act_50 : decode cX11_act 50 = .ok (.iaload, 1) := by decide +kernel
theorem dX11_act_51 : decode cX11_act 51 = .ok (.goto 5, 3) := by decide +kernel
theorem dX11_act_54 : decode cX11_act 54 = .ok (.bipush (-102), 2) := by decide +kernel
theorem dX11_act_56 : decode cX11_act 56 = .ok (.ireturn, 1) := by decide +kernel
theorem dX11_isWrite_0 : decode cX11_isWrite 0 = .ok (.aload_n 0, 1) := by decide +kernel
theorem dX11_isWrite_1 : decode cX11_isWrite 1 = .ok (.getfield 13, 3) := by decide +kernel
theorem dX11_isWrite_4 : decode cX11_isWrite 4 = .ok (.iload_n 1, 1) := by decide +kernel
theorem dX11_isWrite_5 : decode cX11_isWrite 5 = .ok (.iaload, 1) := by decide +kernel
theorem dX11_isWrite_6 : decode cX11_isWrite 6 = .ok (.ifCond .eq 13, 3) := by decide +kernel
theorem dX11_isWrite_9 : decode cX11_isWrite 9 = .ok (.aload_n 0, 1) := by decide +kernel
theorem dX11_isWrite_10 : decode cX11_isWrite 10 = .ok (.getfield 13, 3) := by decide +kernel
theorem dX11_isWrite_13 : decode cX11_isWrite 13 = .ok (.iload_n 1, 1) := by decide +kernel
theorem dX11_isWrite_14 : decode cX11_isWrite 14 = .ok (.iaload, 1) := by decide +kernel
theorem dX11_isWrite_15 : decode cX11_isWrite 15 = .ok (.iconst 1, 1) := by decide +kernel
theorem dX11_isWrite_16 : decode cX11_isWrite 16 = .ok (.if_icmp .ne 7, 3) := by decide +kernel
theorem dX11_isWrite_19 : decode cX11_isWrite 19 = .ok (.iconst 1, 1) := by decide +kernel
theorem dX11_isWrite_20 : decode cX11_isWrite 20 = .ok (.goto 4, 3) := by decide +kernel
theorem dX11_isWrite_23 : decode cX11_isWrite 23 = .ok (.iconst 0, 1) := by decide +kernel
theorem dX11_isWrite_24 : decode cX11_isWrite 24 = .ok (.ireturn, 1) := by decide +kernel
theorem dX11_lay_0 : decode cX11_lay 0 = .ok (.lload_n 1, 1) := by decide +kernel
theorem dX11_lay_1 : decode cX11_lay 1 = .ok (.lstore_n 3, 1) := by decide +kernel
theorem dX11_lay_2 : decode cX11_lay 2 = .ok (.iconst 0, 1) := by decide +kernel
theorem dX11_lay_3 : decode cX11_lay 3 = .ok (.istore 5, 2) := by decide +kernel
theorem dX11_lay_5 : decode cX11_lay 5 = .ok (.iload 5, 2) := by decide +kernel
theorem dX11_lay_7 : decode cX11_lay 7 = .ok (.bipush 8, 2) := by decide +kernel
theorem dX11_lay_9 : decode cX11_lay 9 = .ok (.if_icmp .ge 28, 3) := by decide +kernel
theorem dX11_lay_12 : decode cX11_lay 12 = .ok (.aload_n 0, 1) := by decide +kernel
theorem dX11_lay_13 : decode cX11_lay 13 = .ok (.getfield 46, 3) := by decide +kernel
theorem dX11_lay_16 : decode cX11_lay 16 = .ok (.iload 5, 2) := by decide +kernel
theorem dX11_lay_18 : decode cX11_lay 18 = .ok (.lload_n 3, 1) := by decide +kernel
theorem dX11_lay_19 : decode cX11_lay 19 = .ok (.ldc2_w 114, 3) := by decide +kernel
theorem dX11_lay_22 : decode cX11_lay 22 = .ok (.lrem, 1) := by decide +kernel
theorem dX11_lay_23 : decode cX11_lay 23 = .ok (.l2i, 1) := by decide +kernel
theorem dX11_lay_24 : decode cX11_lay 24 = .ok (.iastore, 1) := by decide +kernel
theorem dX11_lay_25 : decode cX11_lay 25 = .ok (.lload_n 3, 1) := by decide +kernel
theorem dX11_lay_26 : decode cX11_lay 26 = .ok (.ldc2_w 114, 3) := by decide +kernel
theorem dX11_lay_29 : decode cX11_lay 29 = .ok (.ldiv, 1) := by decide +kernel
theorem dX11_lay_30 : decode cX11_lay 30 = .ok (.lstore_n 3, 1) := by decide +kernel
theorem dX11_lay_31 : decode cX11_lay 31 = .ok (.iinc 5 1, 3) := by decide +kernel
theorem dX11_lay_34 : decode cX11_lay 34 = .ok (.goto (-29), 3) := by decide +kernel
theorem dX11_lay_37 : decode cX11_lay 37 = .ok (.return_, 1) := by decide +kernel
theorem dX11_told_0 : decode cX11_told 0 = .ok (.lconst 0, 1) := by decide +kernel
theorem dX11_told_1 : decode cX11_told 1 = .ok (.lstore_n 1, 1) := by decide +kernel
theorem dX11_told_2 : decode cX11_told 2 = .ok (.bipush 7, 2) := by decide +kernel
theorem dX11_told_4 : decode cX11_told 4 = .ok (.istore_n 3, 1) := by decide +kernel
theorem dX11_told_5 : decode cX11_told 5 = .ok (.iload_n 3, 1) := by decide +kernel
theorem dX11_told_6 : decode cX11_told 6 = .ok (.ifCond .lt 23, 3) := by decide +kernel
theorem dX11_told_9 : decode cX11_told 9 = .ok (.ldc2_w 114, 3) := by decide +kernel
theorem dX11_told_12 : decode cX11_told 12 = .ok (.lload_n 1, 1) := by decide +kernel
theorem dX11_told_13 : decode cX11_told 13 = .ok (.lmul, 1) := by decide +kernel
theorem dX11_told_14 : decode cX11_told 14 = .ok (.aload_n 0, 1) := by decide +kernel
theorem dX11_told_15 : decode cX11_told 15 = .ok (.getfield 46, 3) := by decide +kernel
theorem dX11_told_18 : decode cX11_told 18 = .ok (.iload_n 3, 1) := by decide +kernel
theorem dX11_told_19 : decode cX11_told 19 = .ok (.iaload, 1) := by decide +kernel
theorem dX11_told_20 : decode cX11_told 20 = .ok (.i2l, 1) := by decide +kernel
theorem dX11_told_21 : decode cX11_told 21 = .ok (.ladd, 1) := by decide +kernel
theorem dX11_told_22 : decode cX11_told 22 = .ok (.lstore_n 1, 1) := by decide +kernel
theorem dX11_told_23 : decode cX11_told 23 = .ok (.iinc 3 (-1), 3) := by decide +kernel
theorem dX11_told_26 : decode cX11_told 26 = .ok (.goto (-21), 3) := by decide +kernel
theorem dX11_told_29 : decode cX11_told 29 = .ok (.lload_n 1, 1) := by decide +kernel
theorem dX11_told_30 : decode cX11_told 30 = .ok (.lreturn, 1) := by decide +kernel
theorem dX11_plateOf_0 : decode cX11_plateOf 0 = .ok (.iconst 0, 1) := by decide +kernel
theorem dX11_plateOf_1 : decode cX11_plateOf 1 = .ok (.istore_n 2, 1) := by decide +kernel
theorem dX11_plateOf_2 : decode cX11_plateOf 2 = .ok (.iload_n 2, 1) := by decide +kernel
theorem dX11_plateOf_3 : decode cX11_plateOf 3 = .ok (.bipush 8, 2) := by decide +kernel
theorem dX11_plateOf_5 : decode cX11_plateOf 5 = .ok (.if_icmp .ge 21, 3) := by decide +kernel
theorem dX11_plateOf_8 : decode cX11_plateOf 8 = .ok (.aload_n 0, 1) := by decide +kernel
theorem dX11_plateOf_9 : decode cX11_plateOf 9 = .ok (.getfield 46, 3) := by decide +kernel
theorem dX11_plateOf_12 : decode cX11_plateOf 12 = .ok (.iload_n 2, 1) := by decide +kernel
theorem dX11_plateOf_13 : decode cX11_plateOf 13 = .ok (.aload_n 0, 1) := by decide +kernel
theorem dX11_plateOf_14 : decode cX11_plateOf 14 = .ok (.getfield 7, 3) := by decide +kernel
theorem dX11_plateOf_17 : decode cX11_plateOf 17 = .ok (.iload_n 2, 1) := by decide +kernel
theorem dX11_plateOf_18 : decode cX11_plateOf 18 = .ok (.iaload, 1) := by decide +kernel
theorem dX11_plateOf_19 : decode cX11_plateOf 19 = .ok (.iastore, 1) := by decide +kernel
theorem dX11_plateOf_20 : decode cX11_plateOf 20 = .ok (.iinc 2 1, 3) := by decide +kernel
theorem dX11_plateOf_23 : decode cX11_plateOf 23 = .ok (.goto (-21), 3) := by decide +kernel
theorem dX11_plateOf_26 : decode cX11_plateOf 26 = .ok (.iconst 0, 1) := by decide +kernel
theorem dX11_plateOf_27 : decode cX11_plateOf 27 = .ok (.istore_n 2, 1) := by decide +kernel
theorem dX11_plateOf_28 : decode cX11_plateOf 28 = .ok (.iload_n 2, 1) := by decide +kernel
theorem dX11_plateOf_29 : decode cX11_plateOf 29 = .ok (.aload_n 0, 1) := by decide +kernel
theorem dX11_plateOf_30 : decode cX11_plateOf 30 = .ok (.getfield 104, 3) := by decide +kernel
theorem dX11_plateOf_33 : decode cX11_plateOf 33 = .ok (.if_icmp .ge 76, 3) := by decide +kernel
theorem dX11_plateOf_36 : decode cX11_plateOf 36 = .ok (.iload_n 1, 1) := by decide +kernel
theorem dX11_plateOf_37 : decode cX11_plateOf 37 = .ok (.iload_n 2, 1) := by decide +kernel
theorem dX11_plateOf_38 : decode cX11_plateOf 38 = .ok (.ishr, 1) := by decide +kernel
theorem dX11_plateOf_39 : decode cX11_plateOf 39 = .ok (.iconst 1, 1) := by decide +kernel
theorem dX11_plateOf_40 : decode cX11_plateOf 40 = .ok (.iand, 1) := by decide +kernel
theorem dX11_plateOf_41 : decode cX11_plateOf 41 = .ok (.iconst 1, 1) := by decide +kernel
theorem dX11_plateOf_42 : decode cX11_plateOf 42 = .ok (.if_icmp .ne 61, 3) := by decide +kernel
theorem dX11_plateOf_45 : decode cX11_plateOf 45 = .ok (.aload_n 0, 1) := by decide +kernel
theorem dX11_plateOf_46 : decode cX11_plateOf 46 = .ok (.getfield 46, 3) := by decide +kernel
theorem dX11_plateOf_49 : decode cX11_plateOf 49 = .ok (.aload_n 0, 1) := by decide +kernel
theorem dX11_plateOf_50 : decode cX11_plateOf 50 = .ok (.getfield 16, 3) := by decide +kernel
theorem dX11_plateOf_53 : decode cX11_plateOf 53 = .ok (.iconst 4, 1) := by decide +kernel
theorem dX11_plateOf_54 : decode cX11_plateOf 54 = .ok (.iload_n 2, 1) := by decide +kernel
theorem dX11_plateOf_55 : decode cX11_plateOf 55 = .ok (.imul, 1) := by decide +kernel
theorem dX11_plateOf_56 : decode cX11_plateOf 56 = .ok (.iaload, 1) := by decide +kernel
theorem dX11_plateOf_57 : decode cX11_plateOf 57 = .ok (.aload_n 0, 1) := by decide +kernel
theorem dX11_plateOf_58 : decode cX11_plateOf 58 = .ok (.getfield 16, 3) := by decide +kernel
theorem dX11_plateOf_61 : decode cX11_plateOf 61 = .ok (.iconst 4, 1) := by decide +kernel
theorem dX11_plateOf_62 : decode cX11_plateOf 62 = .ok (.iload_n 2, 1) := by decide +kernel
theorem dX11_plateOf_63 : decode cX11_plateOf 63 = .ok (.imul, 1) := by decide +kernel
theorem dX11_plateOf_64 : decode cX11_plateOf 64 = .ok (.iconst 1, 1) := by decide +kernel
theorem dX11_plateOf_65 : decode cX11_plateOf 65 = .ok (.iadd, 1) := by decide +kernel
theorem dX11_plateOf_66 : decode cX11_plateOf 66 = .ok (.iaload, 1) := by decide +kernel
theorem dX11_plateOf_67 : decode cX11_plateOf 67 = .ok (.iastore, 1) := by decide +kernel
theorem dX11_plateOf_68 : decode cX11_plateOf 68 = .ok (.aload_n 0, 1) := by decide +kernel
theorem dX11_plateOf_69 : decode cX11_plateOf 69 = .ok (.getfield 13, 3) := by decide +kernel
theorem dX11_plateOf_72 : decode cX11_plateOf 72 = .ok (.iload_n 2, 1) := by decide +kernel
theorem dX11_plateOf_73 : decode cX11_plateOf 73 = .ok (.iaload, 1) := by decide +kernel
theorem dX11_plateOf_74 : decode cX11_plateOf 74 = .ok (.iconst 1, 1) := by decide +kernel
theorem dX11_plateOf_75 : decode cX11_plateOf 75 = .ok (.if_icmp .ne 28, 3) := by decide +kernel
theorem dX11_plateOf_78 : decode cX11_plateOf 78 = .ok (.aload_n 0, 1) := by decide +kernel
theorem dX11_plateOf_79 : decode cX11_plateOf 79 = .ok (.getfield 46, 3) := by decide +kernel
theorem dX11_plateOf_82 : decode cX11_plateOf 82 = .ok (.aload_n 0, 1) := by decide +kernel
theorem dX11_plateOf_83 : decode cX11_plateOf 83 = .ok (.getfield 16, 3) := by decide +kernel
theorem dX11_plateOf_86 : decode cX11_plateOf 86 = .ok (.iconst 4, 1) := by decide +kernel
theorem dX11_plateOf_87 : decode cX11_plateOf 87 = .ok (.iload_n 2, 1) := by decide +kernel
theorem dX11_plateOf_88 : decode cX11_plateOf 88 = .ok (.imul, 1) := by decide +kernel
theorem dX11_plateOf_89 : decode cX11_plateOf 89 = .ok (.iconst 2, 1) := by decide +kernel
theorem dX11_plateOf_90 : decode cX11_plateOf 90 = .ok (.iadd, 1) := by decide +kernel
theorem dX11_plateOf_91 : decode cX11_plateOf 91 = .ok (.iaload, 1) := by decide +kernel
theorem dX11_plateOf_92 : decode cX11_plateOf 92 = .ok (.aload_n 0, 1) := by decide +kernel
theorem dX11_plateOf_93 : decode cX11_plateOf 93 = .ok (.getfield 16, 3) := by decide +kernel
theorem dX11_plateOf_96 : decode cX11_plateOf 96 = .ok (.iconst 4, 1) := by decide +kernel
theorem dX11_plateOf_97 : decode cX11_plateOf 97 = .ok (.iload_n 2, 1) := by decide +kernel
theorem dX11_plateOf_98 : decode cX11_plateOf 98 = .ok (.imul, 1) := by decide +kernel
theorem dX11_plateOf_99 : decode cX11_plateOf 99 = .ok (.iconst 3, 1) := by decide +kernel
theorem dX11_plateOf_100 : decode cX11_plateOf 100 = .ok (.iadd, 1) := by decide +kernel
theorem dX11_plateOf_101 : decode cX11_plateOf 101 = .ok (.iaload, 1) := by decide +kernel
theorem dX11_plateOf_102 : decode cX11_plateOf 102 = .ok (.iastore, 1) := by decide +kernel
theorem dX11_plateOf_103 : decode cX11_plateOf 103 = .ok (.iinc 2 1, 3) := by decide +kernel
theorem dX11_plateOf_106 : decode cX11_plateOf 106 = .ok (.goto (-78), 3) := by decide +kernel
theorem dX11_plateOf_109 : decode cX11_plateOf 109 = .ok (.aload_n 0, 1) := by decide +kernel
theorem dX11_plateOf_110 : decode cX11_plateOf 110 = .ok (.invokevirtual 116, 3) := by decide +kernel
theorem dX11_plateOf_113 : decode cX11_plateOf 113 = .ok (.lreturn, 1) := by decide +kernel
theorem dX11_writesAhead_0 : decode cX11_writesAhead 0 = .ok (.iconst 0, 1) := by decide +kernel
theorem dX11_writesAhead_1 : decode cX11_writesAhead 1 = .ok (.istore_n 2, 1) := by decide +kernel
theorem dX11_writesAhead_2 : decode cX11_writesAhead 2 = .ok (.iconst 0, 1) := by decide +kernel
theorem dX11_writesAhead_3 : decode cX11_writesAhead 3 = .ok (.istore_n 3, 1) := by decide +kernel
theorem dX11_writesAhead_4 : decode cX11_writesAhead 4 = .ok (.iload_n 3, 1) := by decide +kernel
theorem dX11_writesAhead_5 : decode cX11_writesAhead 5 = .ok (.iload_n 1, 1) := by decide +kernel
theorem dX11_writesAhead_6 : decode cX11_writesAhead 6 = .ok (.if_icmp .ge 27, 3) := by decide +kernel
theorem dX11_writesAhead_9 : decode cX11_writesAhead 9 = .ok (.iload_n 2, 1) := by decide +kernel
theorem dX11_writesAhead_10 : decode cX11_writesAhead 10 = .ok (.aload_n 0, 1) := by decide +kernel
theorem dX11_writesAhead_11 : decode cX11_writesAhead 11 = .ok (.iload_n 3, 1) := by decide +kernel
theorem dX11_writesAhead_12 : decode cX11_writesAhead 12 = .ok (.invokevirtual 120, 3) := by decide +kernel
theorem dX11_writesAhead_15 : decode cX11_writesAhead 15 = .ok (.ifCond .eq 9, 3) := by decide +kernel
theorem dX11_writesAhead_18 : decode cX11_writesAhead 18 = .ok (.iconst 1, 1) := by decide +kernel
theorem dX11_writesAhead_19 : decode cX11_writesAhead 19 = .ok (.iload_n 3, 1) := by decide +kernel
theorem dX11_writesAhead_20 : decode cX11_writesAhead 20 = .ok (.ishl, 1) := by decide +kernel
theorem dX11_writesAhead_21 : decode cX11_writesAhead 21 = .ok (.goto 4, 3) := by decide +kernel
theorem dX11_writesAhead_24 : decode cX11_writesAhead 24 = .ok (.iconst 0, 1) := by decide +kernel
theorem dX11_writesAhead_25 : decode cX11_writesAhead 25 = .ok (.ior, 1) := by decide +kernel
theorem dX11_writesAhead_26 : decode cX11_writesAhead 26 = .ok (.istore_n 2, 1) := by decide +kernel
theorem dX11_writesAhead_27 : decode cX11_writesAhead 27 = .ok (.iinc 3 1, 3) := by decide +kernel
theorem dX11_writesAhead_30 : decode cX11_writesAhead 30 = .ok (.goto (-26), 3) := by decide +kernel
theorem dX11_writesAhead_33 : decode cX11_writesAhead 33 = .ok (.iload_n 2, 1) := by decide +kernel
theorem dX11_writesAhead_34 : decode cX11_writesAhead 34 = .ok (.ireturn, 1) := by decide +kernel
theorem dX11_end_0 : decode cX11_end 0 = .ok (.aload_n 0, 1) := by decide +kernel
theorem dX11_end_1 : decode cX11_end 1 = .ok (.aload_n 0, 1) := by decide +kernel
theorem dX11_end_2 : decode cX11_end 2 = .ok (.aload_n 0, 1) := by decide +kernel
theorem dX11_end_3 : decode cX11_end 3 = .ok (.getfield 104, 3) := by decide +kernel
theorem dX11_end_6 : decode cX11_end 6 = .ok (.invokevirtual 123, 3) := by decide +kernel
theorem dX11_end_9 : decode cX11_end 9 = .ok (.invokevirtual 127, 3) := by decide +kernel
theorem dX11_end_12 : decode cX11_end 12 = .ok (.lreturn, 1) := by decide +kernel
theorem dX11_letters_0 : decode cX11_letters 0 = .ok (.iconst 0, 1) := by decide +kernel
theorem dX11_letters_1 : decode cX11_letters 1 = .ok (.istore_n 3, 1) := by decide +kernel
theorem dX11_letters_2 : decode cX11_letters 2 = .ok (.iconst 0, 1) := by decide +kernel
theorem dX11_letters_3 : decode cX11_letters 3 = .ok (.istore 4, 2) := by decide +kernel
theorem dX11_letters_5 : decode cX11_letters 5 = .ok (.iconst 0, 1) := by decide +kernel
theorem dX11_letters_6 : decode cX11_letters 6 = .ok (.istore 5, 2) := by decide +kernel
theorem dX11_letters_8 : decode cX11_letters 8 = .ok (.iload 5, 2) := by decide +kernel
theorem dX11_letters_10 : decode cX11_letters 10 = .ok (.bipush 8, 2) := by decide +kernel
theorem dX11_letters_12 : decode cX11_letters 12 = .ok (.if_icmp .ge 73, 3) := by decide +kernel
theorem dX11_letters_15 : decode cX11_letters 15 = .ok (.lload_n 1, 1) := by decide +kernel
theorem dX11_letters_16 : decode cX11_letters 16 = .ok (.bipush 8, 2) := by decide +kernel
theorem dX11_letters_18 : decode cX11_letters 18 = .ok (.iload 5, 2) := by decide +kernel
theorem dX11_letters_20 : decode cX11_letters 20 = .ok (.imul, 1) := by decide +kernel
theorem dX11_letters_21 : decode cX11_letters 21 = .ok (.lshr, 1) := by decide +kernel
theorem dX11_letters_22 : decode cX11_letters 22 = .ok (.ldc2_w 131, 3) := by decide +kernel
theorem dX11_letters_25 : decode cX11_letters 25 = .ok (.land, 1) := by decide +kernel
theorem dX11_letters_26 : decode cX11_letters 26 = .ok (.l2i, 1) := by decide +kernel
theorem dX11_letters_27 : decode cX11_letters 27 = .ok (.istore 6, 2) := by decide +kernel
theorem dX11_letters_29 : decode cX11_letters 29 = .ok (.iload 6, 2) := by decide +kernel
theorem dX11_letters_31 : decode cX11_letters 31 = .ok (.bipush 126, 2) := by decide +kernel
theorem dX11_letters_33 : decode cX11_letters 33 = .ok (.if_icmp .gt 13, 3) := by decide +kernel
theorem dX11_letters_36 : decode cX11_letters 36 = .ok (.iload 4, 2) := by decide +kernel
theorem dX11_letters_38 : decode cX11_letters 38 = .ok (.ifCond .eq 11, 3) := by decide +kernel
theorem dX11_letters_41 : decode cX11_letters 41 = .ok (.iload 6, 2) := by decide +kernel
theorem dX11_letters_43 : decode cX11_letters 43 = .ok (.ifCond .eq 6, 3) := by decide +kernel
theorem dX11_letters_46 : decode cX11_letters 46 = .ok (.bipush (-102), 2) := by decide +kernel
theorem dX11_letters_48 : decode cX11_letters 48 = .ok (.ireturn, 1) := by decide +kernel
theorem dX11_letters_49 : decode cX11_letters 49 = .ok (.iload 4, 2) := by decide +kernel
theorem dX11_letters_51 : decode cX11_letters 51 = .ok (.ifCond .ne 8, 3) := by decide +kernel
theorem dX11_letters_54 : decode cX11_letters 54 = .ok (.iload 6, 2) := by decide +kernel
theorem dX11_letters_56 : decode cX11_letters 56 = .ok (.ifCond .ne 7, 3) := by decide +kernel
theorem dX11_letters_59 : decode cX11_letters 59 = .ok (.iconst 1, 1) := by decide +kernel
theorem dX11_letters_60 : decode cX11_letters 60 = .ok (.goto 4, 3) := by decide +kernel
theorem dX11_letters_63 : decode cX11_letters 63 = .ok (.iconst 0, 1) := by decide +kernel
theorem dX11_letters_64 : decode cX11_letters 64 = .ok (.istore 4, 2) := by decide +kernel
theorem dX11_letters_66 : decode cX11_letters 66 = .ok (.iload_n 3, 1) := by decide +kernel
theorem dX11_letters_67 : decode cX11_letters 67 = .ok (.iload 6, 2) := by decide +kernel
theorem dX11_letters_69 : decode cX11_letters 69 = .ok (.ifCond .ne 7, 3) := by decide +kernel
theorem dX11_letters_72 : decode cX11_letters 72 = .ok (.iconst 0, 1) := by decide +kernel
theorem dX11_letters_73 : decode cX11_letters 73 = .ok (.goto 4, 3) := by decide +kernel
theorem dX11_letters_76 : decode cX11_letters 76 = .ok (.iconst 1, 1) := by decide +kernel
theorem dX11_letters_77 : decode cX11_letters 77 = .ok (.iadd, 1) := by decide +kernel
theorem dX11_letters_78 : decode cX11_letters 78 = .ok (.istore_n 3, 1) := by decide +kernel
theorem dX11_letters_79 : decode cX11_letters 79 = .ok (.iinc 5 1, 3) := by decide +kernel
theorem dX11_letters_82 : decode cX11_letters 82 = .ok (.goto (-74), 3) := by decide +kernel
theorem dX11_letters_85 : decode cX11_letters 85 = .ok (.aload_n 0, 1) := by decide +kernel
theorem dX11_letters_86 : decode cX11_letters 86 = .ok (.getfield 133, 3) := by decide +kernel
theorem dX11_letters_89 : decode cX11_letters 89 = .ok (.iload_n 3, 1) := by decide +kernel
theorem dX11_letters_90 : decode cX11_letters 90 = .ok (.iadd, 1) := by decide +kernel
theorem dX11_letters_91 : decode cX11_letters 91 = .ok (.bipush 60, 2) := by decide +kernel
theorem dX11_letters_93 : decode cX11_letters 93 = .ok (.if_icmp .le 6, 3) := by decide +kernel
theorem dX11_letters_96 : decode cX11_letters 96 = .ok (.bipush (-104), 2) := by decide +kernel
theorem dX11_letters_98 : decode cX11_letters 98 = .ok (.ireturn, 1) := by decide +kernel
theorem dX11_letters_99 : decode cX11_letters 99 = .ok (.iconst 0, 1) := by decide +kernel
theorem dX11_letters_100 : decode cX11_letters 100 = .ok (.istore 5, 2) := by decide +kernel
theorem dX11_letters_102 : decode cX11_letters 102 = .ok (.iload 5, 2) := by decide +kernel
theorem dX11_letters_104 : decode cX11_letters 104 = .ok (.iload_n 3, 1) := by decide +kernel
theorem dX11_letters_105 : decode cX11_letters 105 = .ok (.if_icmp .ge 30, 3) := by decide +kernel
theorem dX11_letters_108 : decode cX11_letters 108 = .ok (.aload_n 0, 1) := by decide +kernel
theorem dX11_letters_109 : decode cX11_letters 109 = .ok (.getfield 19, 3) := by decide +kernel
theorem dX11_letters_112 : decode cX11_letters 112 = .ok (.aload_n 0, 1) := by decide +kernel
theorem dX11_letters_113 : decode cX11_letters 113 = .ok (.getfield 133, 3) := by decide +kernel
theorem dX11_letters_116 : decode cX11_letters 116 = .ok (.iload 5, 2) := by decide +kernel
theorem dX11_letters_118 : decode cX11_letters 118 = .ok (.iadd, 1) := by decide +kernel
theorem dX11_letters_119 : decode cX11_letters 119 = .ok (.lload_n 1, 1) := by decide +kernel
theorem dX11_letters_120 : decode cX11_letters 120 = .ok (.bipush 8, 2) := by decide +kernel
theorem dX11_letters_122 : decode cX11_letters 122 = .ok (.iload 5, 2) := by decide +kernel
theorem dX11_letters_124 : decode cX11_letters 124 = .ok (.imul, 1) := by decide +kernel
theorem dX11_letters_125 : decode cX11_letters 125 = .ok (.lshr, 1) := by decide +kernel
theorem dX11_letters_126 : decode cX11_letters 126 = .ok (.l2i, 1) := by decide +kernel
theorem dX11_letters_127 : decode cX11_letters 127 = .ok (.i2b, 1) := by decide +kernel
theorem dX11_letters_128 : decode cX11_letters 128 = .ok (.bastore, 1) := by decide +kernel
theorem dX11_letters_129 : decode cX11_letters 129 = .ok (.iinc 5 1, 3) := by decide +kernel
theorem dX11_letters_132 : decode cX11_letters 132 = .ok (.goto (-30), 3) := by decide +kernel
theorem dX11_letters_135 : decode cX11_letters 135 = .ok (.aload_n 0, 1) := by decide +kernel
theorem dX11_letters_136 : decode cX11_letters 136 = .ok (.dup, 1) := by decide +kernel
theorem dX11_letters_137 : decode cX11_letters 137 = .ok (.getfield 133, 3) := by decide +kernel
theorem dX11_letters_140 : decode cX11_letters 140 = .ok (.iload_n 3, 1) := by decide +kernel
theorem dX11_letters_141 : decode cX11_letters 141 = .ok (.iadd, 1) := by decide +kernel
theorem dX11_letters_142 : decode cX11_letters 142 = .ok (.putfield 133, 3) := by decide +kernel
theorem dX11_letters_145 : decode cX11_letters 145 = .ok (.aload_n 0, 1) := by decide +kernel
theorem dX11_letters_146 : decode cX11_letters 146 = .ok (.getfield 133, 3) := by decide +kernel
theorem dX11_letters_149 : decode cX11_letters 149 = .ok (.ireturn, 1) := by decide +kernel
theorem dX11_blank_0 : decode cX11_blank 0 = .ok (.aload_n 0, 1) := by decide +kernel
theorem dX11_blank_1 : decode cX11_blank 1 = .ok (.getfield 133, 3) := by decide +kernel
theorem dX11_blank_4 : decode cX11_blank 4 = .ok (.istore_n 1, 1) := by decide +kernel
theorem dX11_blank_5 : decode cX11_blank 5 = .ok (.aload_n 0, 1) := by decide +kernel
theorem dX11_blank_6 : decode cX11_blank 6 = .ok (.iconst 0, 1) := by decide +kernel
theorem dX11_blank_7 : decode cX11_blank 7 = .ok (.putfield 133, 3) := by decide +kernel
theorem dX11_blank_10 : decode cX11_blank 10 = .ok (.iload_n 1, 1) := by decide +kernel
theorem dX11_blank_11 : decode cX11_blank 11 = .ok (.ireturn, 1) := by decide +kernel
theorem dX11_isLetter_0 : decode cX11_isLetter 0 = .ok (.iload_n 0, 1) := by decide +kernel
theorem dX11_isLetter_1 : decode cX11_isLetter 1 = .ok (.bipush 97, 2) := by decide +kernel
theorem dX11_isLetter_3 : decode cX11_isLetter 3 = .ok (.bipush 104, 2) := by decide +kernel
theorem dX11_isLetter_5 : decode cX11_isLetter 5 = .ok (.invokestatic 89, 3) := by decide +kernel
theorem dX11_isLetter_8 : decode cX11_isLetter 8 = .ok (.ireturn, 1) := by decide +kernel
theorem dX11_isDigit_0 : decode cX11_isDigit 0 = .ok (.iload_n 0, 1) := by decide +kernel
theorem dX11_isDigit_1 : decode cX11_isDigit 1 = .ok (.bipush 48, 2) := by decide +kernel
theorem dX11_isDigit_3 : decode cX11_isDigit 3 = .ok (.bipush 57, 2) := by decide +kernel
theorem dX11_isDigit_5 : decode cX11_isDigit 5 = .ok (.invokestatic 89, 3) := by decide +kernel
theorem dX11_isDigit_8 : decode cX11_isDigit 8 = .ok (.ireturn, 1) := by decide +kernel
theorem dX11_isMark_0 : decode cX11_isMark 0 = .ok (.iload_n 0, 1) := by decide +kernel
theorem dX11_isMark_1 : decode cX11_isMark 1 = .ok (.bipush 60, 2) := by decide +kernel
theorem dX11_isMark_3 : decode cX11_isMark 3 = .ok (.bipush 62, 2) := by decide +kernel
theorem dX11_isMark_5 : decode cX11_isMark 5 = .ok (.invokestatic 89, 3) := by decide +kernel
theorem dX11_isMark_8 : decode cX11_isMark 8 = .ok (.ireturn, 1) := by decide +kernel
theorem dX11_next_0 : decode cX11_next 0 = .ok (.iload_n 1, 1) := by decide +kernel
theorem dX11_next_1 : decode cX11_next 1 = .ok (.ifCond .eq 19, 3) := by decide +kernel
theorem dX11_next_4 : decode cX11_next 4 = .ok (.iload_n 1, 1) := by decide +kernel
theorem dX11_next_5 : decode cX11_next 5 = .ok (.iconst 1, 1) := by decide +kernel
theorem dX11_next_6 : decode cX11_next 6 = .ok (.if_icmp .eq 14, 3) := by decide +kernel
theorem dX11_next_9 : decode cX11_next 9 = .ok (.iload_n 1, 1) := by decide +kernel
theorem dX11_next_10 : decode cX11_next 10 = .ok (.iconst 4, 1) := by decide +kernel
theorem dX11_next_11 : decode cX11_next 11 = .ok (.if_icmp .eq 9, 3) := by decide +kernel
theorem dX11_next_14 : decode cX11_next 14 = .ok (.iload_n 1, 1) := by decide +kernel
theorem dX11_next_15 : decode cX11_next 15 = .ok (.bipush 10, 2) := by decide +kernel
theorem dX11_next_17 : decode cX11_next 17 = .ok (.if_icmp .ne 7, 3) := by decide +kernel
theorem dX11_next_20 : decode cX11_next 20 = .ok (.iconst 1, 1) := by decide +kernel
theorem dX11_next_21 : decode cX11_next 21 = .ok (.goto 4, 3) := by decide +kernel
theorem dX11_next_24 : decode cX11_next 24 = .ok (.iconst 0, 1) := by decide +kernel
theorem dX11_next_25 : decode cX11_next 25 = .ok (.istore 5, 2) := by decide +kernel
theorem dX11_next_27 : decode cX11_next 27 = .ok (.iload_n 1, 1) := by decide +kernel
theorem dX11_next_28 : decode cX11_next 28 = .ok (.ifCond .eq 8, 3) := by decide +kernel
theorem dX11_next_31 : decode cX11_next 31 = .ok (.iload_n 1, 1) := by decide +kernel
theorem dX11_next_32 : decode cX11_next 32 = .ok (.iconst 1, 1) := by decide +kernel
theorem dX11_next_33 : decode cX11_next 33 = .ok (.if_icmp .ne 7, 3) := by decide +kernel
theorem dX11_next_36 : decode cX11_next 36 = .ok (.iconst 2, 1) := by decide +kernel
theorem dX11_next_37 : decode cX11_next 37 = .ok (.goto 14, 3) := by decide +kernel
theorem dX11_next_40 : decode cX11_next 40 = .ok (.iload_n 1, 1) := by decide +kernel
theorem dX11_next_41 : decode cX11_next 41 = .ok (.iconst 4, 1) := by decide +kernel
theorem dX11_next_42 : decode cX11_next 42 = .ok (.if_icmp .ne 7, 3) := by decide +kernel
theorem dX11_next_45 : decode cX11_next 45 = .ok (.iconst 5, 1) := by decide +kernel
theorem dX11_next_46 : decode cX11_next 46 = .ok (.goto 5, 3) := by decide +kernel
theorem dX11_next_49 : decode cX11_next 49 = .ok (.bipush 11, 2) := by decide +kernel
theorem dX11_next_51 : decode cX11_next 51 = .ok (.istore 6, 2) := by decide +kernel
theorem dX11_next_53 : decode cX11_next 53 = .ok (.iload 5, 2) := by decide +kernel
theorem dX11_next_55 : decode cX11_next 55 = .ok (.ifCond .eq 13, 3) := by decide +kernel
theorem dX11_next_58 : decode cX11_next 58 = .ok (.iload_n 2, 1) := by decide +kernel
theorem dX11_next_59 : decode cX11_next 59 = .ok (.invokestatic 136, 3) := by decide +kernel
theorem dX11_next_62 : decode cX11_next 62 = .ok (.ifCond .eq 6, 3) := by decide +kernel
theorem dX11_next_65 : decode cX11_next 65 = .ok (.iload 6, 2) := by decide +kernel
theorem dX11_next_67 : decode cX11_next 67 = .ok (.ireturn, 1) := by decide +kernel
theorem dX11_next_68 : decode cX11_next 68 = .ok (.iload 5, 2) := by decide +kernel
theorem dX11_next_70 : decode cX11_next 70 = .ok (.ifCond .eq 15, 3) := by decide +kernel
theorem dX11_next_73 : decode cX11_next 73 = .ok (.iload_n 2, 1) := by decide +kernel
theorem dX11_next_74 : decode cX11_next 74 = .ok (.invokestatic 139, 3) := by decide +kernel
theorem dX11_next_77 : decode cX11_next 77 = .ok (.ifCond .eq 8, 3) := by decide +kernel
theorem dX11_next_80 : decode cX11_next 80 = .ok (.iload 6, 2) := by decide +kernel
theorem dX11_next_82 : decode cX11_next 82 = .ok (.iconst 1, 1) := by decide +kernel
theorem dX11_next_83 : decode cX11_next 83 = .ok (.iadd, 1) := by decide +kernel
theorem dX11_next_84 : decode cX11_next 84 = .ok (.ireturn, 1) := by decide +kernel
theorem dX11_next_85 : decode cX11_next 85 = .ok (.iload_n 1, 1) := by decide +kernel
theorem dX11_next_86 : decode cX11_next 86 = .ok (.ifCond .ne 17, 3) := by decide +kernel
theorem dX11_next_89 : decode cX11_next 89 = .ok (.iload_n 2, 1) := by decide +kernel
theorem dX11_next_90 : decode cX11_next 90 = .ok (.bipush 33, 2) := by decide +kernel
theorem dX11_next_92 : decode cX11_next 92 = .ok (.if_icmp .eq 9, 3) := by decide +kernel
theorem dX11_next_95 : decode cX11_next 95 = .ok (.iload_n 2, 1) := by decide +kernel
theorem dX11_next_96 : decode cX11_next 96 = .ok (.bipush 40, 2) := by decide +kernel
theorem dX11_next_98 : decode cX11_next 98 = .ok (.if_icmp .ne 5, 3) := by decide +kernel
theorem dX11_next_101 : decode cX11_next 101 = .ok (.iconst 0, 1) := by decide +kernel
theorem dX11_next_102 : decode cX11_next 102 = .ok (.ireturn, 1) := by decide +kernel
theorem dX11_next_103 : decode cX11_next 103 = .ok (.iload_n 1, 1) := by decide +kernel
theorem dX11_next_104 : decode cX11_next 104 = .ok (.iconst 3, 1) := by decide +kernel
theorem dX11_next_105 : decode cX11_next 105 = .ok (.if_icmp .eq 15, 3) := by decide +kernel
theorem dX11_next_108 : decode cX11_next 108 = .ok (.iload_n 1, 1) := by decide +kernel
theorem dX11_next_109 : decode cX11_next 109 = .ok (.bipush 6, 2) := by decide +kernel
theorem dX11_next_111 : decode cX11_next 111 = .ok (.if_icmp .eq 9, 3) := by decide +kernel
theorem dX11_next_114 : decode cX11_next 114 = .ok (.iload_n 1, 1) := by decide +kernel
theorem dX11_next_115 : decode cX11_next 115 = .ok (.bipush 12, 2) := by decide +kernel
theorem dX11_next_117 : decode cX11_next 117 = .ok (.if_icmp .ne 14, 3) := by decide +kernel
theorem dX11_next_120 : decode cX11_next 120 = .ok (.iload_n 2, 1) := by decide +kernel
theorem dX11_next_121 : decode cX11_next 121 = .ok (.invokestatic 139, 3) := by decide +kernel
theorem dX11_next_124 : decode cX11_next 124 = .ok (.ifCond .eq 7, 3) := by decide +kernel
theorem dX11_next_127 : decode cX11_next 127 = .ok (.iload_n 1, 1) := by decide +kernel
theorem dX11_next_128 : decode cX11_next 128 = .ok (.iconst 1, 1) := by decide +kernel
theorem dX11_next_129 : decode cX11_next 129 = .ok (.isub, 1) := by decide +kernel
theorem dX11_next_130 : decode cX11_next 130 = .ok (.ireturn, 1) := by decide +kernel
theorem dX11_next_131 : decode cX11_next 131 = .ok (.iload_n 2, 1) := by decide +kernel
theorem dX11_next_132 : decode cX11_next 132 = .ok (.bipush 43, 2) := by decide +kernel
theorem dX11_next_134 : decode cX11_next 134 = .ok (.if_icmp .eq 9, 3) := by decide +kernel
theorem dX11_next_137 : decode cX11_next 137 = .ok (.iload_n 2, 1) := by decide +kernel
theorem dX11_next_138 : decode cX11_next 138 = .ok (.bipush 45, 2) := by decide +kernel
theorem dX11_next_140 : decode cX11_next 140 = .ok (.if_icmp .ne 7, 3) := by decide +kernel
theorem dX11_next_143 : decode cX11_next 143 = .ok (.iconst 1, 1) := by decide +kernel
theorem dX11_next_144 : decode cX11_next 144 = .ok (.goto 4, 3) := by decide +kernel
theorem dX11_next_147 : decode cX11_next 147 = .ok (.iconst 0, 1) := by decide +kernel
theorem dX11_next_148 : decode cX11_next 148 = .ok (.istore 7, 2) := by decide +kernel
theorem dX11_next_150 : decode cX11_next 150 = .ok (.iload_n 1, 1) := by decide +kernel
theorem dX11_next_151 : decode cX11_next 151 = .ok (.iconst 2, 1) := by decide +kernel
theorem dX11_next_152 : decode cX11_next 152 = .ok (.if_icmp .eq 8, 3) := by decide +kernel
theorem dX11_next_155 : decode cX11_next 155 = .ok (.iload_n 1, 1) := by decide +kernel
theorem dX11_next_156 : decode cX11_next 156 = .ok (.iconst 3, 1) := by decide +kernel
theorem dX11_next_157 : decode cX11_next 157 = .ok (.if_icmp .ne 25, 3) := by decide +kernel
theorem dX11_next_160 : decode cX11_next 160 = .ok (.iload 7, 2) := by decide +kernel
theorem dX11_next_162 : decode cX11_next 162 = .ok (.ifCond .eq 7, 3) := by decide +kernel
theorem dX11_next_165 : decode cX11_next 165 = .ok (.iconst 1, 1) := by decide +kernel
theorem dX11_next_166 : decode cX11_next 166 = .ok (.goto 15, 3) := by decide +kernel
theorem dX11_next_169 : decode cX11_next 169 = .ok (.iload_n 2, 1) := by decide +kernel
theorem dX11_next_170 : decode cX11_next 170 = .ok (.invokestatic 142, 3) := by decide +kernel
theorem dX11_next_173 : decode cX11_next 173 = .ok (.ifCond .eq 7, 3) := by decide +kernel
theorem dX11_next_176 : decode cX11_next 176 = .ok (.iconst 4, 1) := by decide +kernel
theorem dX11_next_177 : decode cX11_next 177 = .ok (.goto 4, 3) := by decide +kernel
theorem dX11_next_180 : decode cX11_next 180 = .ok (.iconst (-1), 1) := by decide +kernel
theorem dX11_next_181 : decode cX11_next 181 = .ok (.ireturn, 1) := by decide +kernel
theorem dX11_next_182 : decode cX11_next 182 = .ok (.iload_n 1, 1) := by decide +kernel
theorem dX11_next_183 : decode cX11_next 183 = .ok (.iconst 5, 1) := by decide +kernel
theorem dX11_next_184 : decode cX11_next 184 = .ok (.if_icmp .eq 9, 3) := by decide +kernel
theorem dX11_next_187 : decode cX11_next 187 = .ok (.iload_n 1, 1) := by decide +kernel
theorem dX11_next_188 : decode cX11_next 188 = .ok (.bipush 6, 2) := by decide +kernel
theorem dX11_next_190 : decode cX11_next 190 = .ok (.if_icmp .ne 10, 3) := by decide +kernel
theorem dX11_next_193 : decode cX11_next 193 = .ok (.iload 7, 2) := by decide +kernel
theorem dX11_next_195 : decode cX11_next 195 = .ok (.ifCond .eq 5, 3) := by decide +kernel
theorem dX11_next_198 : decode cX11_next 198 = .ok (.iconst 4, 1) := by decide +kernel
theorem dX11_next_199 : decode cX11_next 199 = .ok (.ireturn, 1) := by decide +kernel
theorem dX11_next_200 : decode cX11_next 200 = .ok (.iload_n 1, 1) := by decide +kernel
theorem dX11_next_201 : decode cX11_next 201 = .ok (.bipush 11, 2) := by decide +kernel
theorem dX11_next_203 : decode cX11_next 203 = .ok (.if_icmp .eq 9, 3) := by decide +kernel
theorem dX11_next_206 : decode cX11_next 206 = .ok (.iload_n 1, 1) := by decide +kernel
theorem dX11_next_207 : decode cX11_next 207 = .ok (.bipush 12, 2) := by decide +kernel
theorem dX11_next_209 : decode cX11_next 209 = .ok (.if_icmp .ne 11, 3) := by decide +kernel
theorem dX11_next_212 : decode cX11_next 212 = .ok (.iload 7, 2) := by decide +kernel
theorem dX11_next_214 : decode cX11_next 214 = .ok (.ifCond .eq 6, 3) := by decide +kernel
theorem dX11_next_217 : decode cX11_next 217 = .ok (.bipush 10, 2) := by decide +kernel
theorem dX11_next_219 : decode cX11_next 219 = .ok (.ireturn, 1) := by decide +kernel
theorem dX11_next_220 : decode cX11_next 220 = .ok (.iload_n 1, 1) := by decide +kernel
theorem dX11_next_221 : decode cX11_next 221 = .ok (.iconst 5, 1) := by decide +kernel
theorem dX11_next_222 : decode cX11_next 222 = .ok (.bipush 7, 2) := by decide +kernel
theorem dX11_next_224 : decode cX11_next 224 = .ok (.invokestatic 89, 3) := by decide +kernel
theorem dX11_next_227 : decode cX11_next 227 = .ok (.ifCond .eq 70, 3) := by decide +kernel
theorem dX11_next_230 : decode cX11_next 230 = .ok (.iload_n 2, 1) := by decide +kernel
theorem dX11_next_231 : decode cX11_next 231 = .ok (.bipush 41, 2) := by decide +kernel
theorem dX11_next_233 : decode cX11_next 233 = .ok (.if_icmp .ne 12, 3) := by decide +kernel
theorem dX11_next_236 : decode cX11_next 236 = .ok (.iload 4, 2) := by decide +kernel
theorem dX11_next_238 : decode cX11_next 238 = .ok (.ifCond .le 7, 3) := by decide +kernel
theorem dX11_next_241 : decode cX11_next 241 = .ok (.iconst 1, 1) := by decide +kernel
theorem dX11_next_242 : decode cX11_next 242 = .ok (.goto 4, 3) := by decide +kernel
theorem dX11_next_245 : decode cX11_next 245 = .ok (.iconst 0, 1) := by decide +kernel
theorem dX11_next_246 : decode cX11_next 246 = .ok (.istore 8, 2) := by decide +kernel
theorem dX11_next_248 : decode cX11_next 248 = .ok (.iload_n 2, 1) := by decide +kernel
theorem dX11_next_249 : decode cX11_next 249 = .ok (.bipush 38, 2) := by decide +kernel
theorem dX11_next_251 : decode cX11_next 251 = .ok (.if_icmp .eq 9, 3) := by decide +kernel
theorem dX11_next_254 : decode cX11_next 254 = .ok (.iload_n 2, 1) := by decide +kernel
theorem dX11_next_255 : decode cX11_next 255 = .ok (.bipush 124, 2) := by decide +kernel
theorem dX11_next_257 : decode cX11_next 257 = .ok (.if_icmp .ne 7, 3) := by decide +kernel
theorem dX11_next_260 : decode cX11_next 260 = .ok (.iconst 0, 1) := by decide +kernel
theorem dX11_next_261 : decode cX11_next 261 = .ok (.goto 35, 3) := by decide +kernel
theorem dX11_next_264 : decode cX11_next 264 = .ok (.iload 8, 2) := by decide +kernel
theorem dX11_next_266 : decode cX11_next 266 = .ok (.ifCond .eq 8, 3) := by decide +kernel
theorem dX11_next_269 : decode cX11_next 269 = .ok (.bipush 7, 2) := by decide +kernel
theorem dX11_next_271 : decode cX11_next 271 = .ok (.goto 25, 3) := by decide +kernel
theorem dX11_next_274 : decode cX11_next 274 = .ok (.iload_n 2, 1) := by decide +kernel
theorem dX11_next_275 : decode cX11_next 275 = .ok (.bipush 58, 2) := by decide +kernel
theorem dX11_next_277 : decode cX11_next 277 = .ok (.if_icmp .ne 18, 3) := by decide +kernel
theorem dX11_next_280 : decode cX11_next 280 = .ok (.iload 4, 2) := by decide +kernel
theorem dX11_next_282 : decode cX11_next 282 = .ok (.ifCond .ne 13, 3) := by decide +kernel
theorem dX11_next_285 : decode cX11_next 285 = .ok (.iload_n 3, 1) := by decide +kernel
theorem dX11_next_286 : decode cX11_next 286 = .ok (.iconst 1, 1) := by decide +kernel
theorem dX11_next_287 : decode cX11_next 287 = .ok (.if_icmp .ne 8, 3) := by decide +kernel
theorem dX11_next_290 : decode cX11_next 290 = .ok (.bipush 8, 2) := by decide +kernel
theorem dX11_next_292 : decode cX11_next 292 = .ok (.goto 4, 3) := by decide +kernel
theorem dX11_next_295 : decode cX11_next 295 = .ok (.iconst (-1), 1) := by decide +kernel
theorem dX11_next_296 : decode cX11_next 296 = .ok (.ireturn, 1) := by decide +kernel
theorem dX11_next_297 : decode cX11_next 297 = .ok (.iload_n 1, 1) := by decide +kernel
theorem dX11_next_298 : decode cX11_next 298 = .ok (.bipush 8, 2) := by decide +kernel
theorem dX11_next_300 : decode cX11_next 300 = .ok (.if_icmp .ne 15, 3) := by decide +kernel
theorem dX11_next_303 : decode cX11_next 303 = .ok (.iload_n 2, 1) := by decide +kernel
theorem dX11_next_304 : decode cX11_next 304 = .ok (.invokestatic 136, 3) := by decide +kernel
theorem dX11_next_307 : decode cX11_next 307 = .ok (.ifCond .eq 8, 3) := by decide +kernel
theorem dX11_next_310 : decode cX11_next 310 = .ok (.bipush 9, 2) := by decide +kernel
theorem dX11_next_312 : decode cX11_next 312 = .ok (.goto 21, 3) := by decide +kernel
theorem dX11_next_315 : decode cX11_next 315 = .ok (.iload_n 1, 1) := by decide +kernel
theorem dX11_next_316 : decode cX11_next 316 = .ok (.bipush 9, 2) := by decide +kernel
theorem dX11_next_318 : decode cX11_next 318 = .ok (.if_icmp .ne 14, 3) := by decide +kernel
theorem dX11_next_321 : decode cX11_next 321 = .ok (.iload_n 2, 1) := by decide +kernel
theorem dX11_next_322 : decode cX11_next 322 = .ok (.bipush 61, 2) := by decide +kernel
theorem dX11_next_324 : decode cX11_next 324 = .ok (.if_icmp .ne 8, 3) := by decide +kernel
theorem dX11_next_327 : decode cX11_next 327 = .ok (.bipush 10, 2) := by decide +kernel
theorem dX11_next_329 : decode cX11_next 329 = .ok (.goto 4, 3) := by decide +kernel
theorem dX11_next_332 : decode cX11_next 332 = .ok (.iconst (-1), 1) := by decide +kernel
theorem dX11_next_333 : decode cX11_next 333 = .ok (.ireturn, 1) := by decide +kernel
theorem dX11_readText_0 : decode cX11_readText 0 = .ok (.iconst 0, 1) := by decide +kernel
theorem dX11_readText_1 : decode cX11_readText 1 = .ok (.istore_n 2, 1) := by decide +kernel
theorem dX11_readText_2 : decode cX11_readText 2 = .ok (.iconst 0, 1) := by decide +kernel
theorem dX11_readText_3 : decode cX11_readText 3 = .ok (.istore_n 3, 1) := by decide +kernel
theorem dX11_readText_4 : decode cX11_readText 4 = .ok (.iconst 0, 1) := by decide +kernel
theorem dX11_readText_5 : decode cX11_readText 5 = .ok (.istore 4, 2) := by decide +kernel
theorem dX11_readText_7 : decode cX11_readText 7 = .ok (.iconst 1, 1) := by decide +kernel
theorem dX11_readText_8 : decode cX11_readText 8 = .ok (.istore 5, 2) := by decide +kernel
theorem dX11_readText_10 : decode cX11_readText 10 = .ok (.iload 4, 2) := by decide +kernel
theorem dX11_readText_12 : decode cX11_readText 12 = .ok (.aload_n 0, 1) := by decide +kernel
theorem dX11_readText_13 : decode cX11_readText 13 = .ok (.getfield 133, 3) := by decide +kernel
theorem dX11_readText_16 : decode cX11_readText 16 = .ok (.if_icmp .ge 87, 3) := by decide +kernel
theorem dX11_readText_19 : decode cX11_readText 19 = .ok (.iload 5, 2) := by decide +kernel
theorem dX11_readText_21 : decode cX11_readText 21 = .ok (.ifCond .eq 82, 3) := by decide +kernel
theorem dX11_readText_24 : decode cX11_readText 24 = .ok (.aload_n 0, 1) := by decide +kernel
theorem dX11_readText_25 : decode cX11_readText 25 = .ok (.iload_n 2, 1) := by decide +kernel
theorem dX11_readText_26 : decode cX11_readText 26 = .ok (.aload_n 0, 1) := by decide +kernel
theorem dX11_readText_27 : decode cX11_readText 27 = .ok (.getfield 19, 3) := by decide +kernel
theorem dX11_readText_30 : decode cX11_readText 30 = .ok (.iload 4, 2) := by decide +kernel
theorem dX11_readText_32 : decode cX11_readText 32 = .ok (.baload, 1) := by decide +kernel
theorem dX11_readText_33 : decode cX11_readText 33 = .ok (.iload_n 1, 1) := by decide +kernel
theorem dX11_readText_34 : decode cX11_readText 34 = .ok (.iload_n 3, 1) := by decide +kernel
theorem dX11_readText_35 : decode cX11_readText 35 = .ok (.invokevirtual 145, 3) := by decide +kernel
theorem dX11_readText_38 : decode cX11_readText 38 = .ok (.istore 6, 2) := by decide +kernel
theorem dX11_readText_40 : decode cX11_readText 40 = .ok (.iload 6, 2) := by decide +kernel
theorem dX11_readText_42 : decode cX11_readText 42 = .ok (.iconst (-1), 1) := by decide +kernel
theorem dX11_readText_43 : decode cX11_readText 43 = .ok (.if_icmp .eq 7, 3) := by decide +kernel
theorem dX11_readText_46 : decode cX11_readText 46 = .ok (.iconst 1, 1) := by decide +kernel
theorem dX11_readText_47 : decode cX11_readText 47 = .ok (.goto 4, 3) := by decide +kernel
theorem dX11_readText_50 : decode cX11_readText 50 = .ok (.iconst 0, 1) := by decide +kernel
theorem dX11_readText_51 : decode cX11_readText 51 = .ok (.istore 5, 2) := by decide +kernel
theorem dX11_readText_53 : decode cX11_readText 53 = .ok (.iload 5, 2) := by decide +kernel
theorem dX11_readText_55 : decode cX11_readText 55 = .ok (.ifCond .eq 45, 3) := by decide +kernel
theorem dX11_readText_58 : decode cX11_readText 58 = .ok (.iload_n 3, 1) := by decide +kernel
theorem dX11_readText_59 : decode cX11_readText 59 = .ok (.aload_n 0, 1) := by decide +kernel
theorem dX11_readText_60 : decode cX11_readText 60 = .ok (.getfield 19, 3) := by decide +kernel
theorem dX11_readText_63 : decode cX11_readText 63 = .ok (.iload 4, 2) := by decide +kernel
theorem dX11_readText_65 : decode cX11_readText 65 = .ok (.baload, 1) := by decide +kernel
theorem dX11_readText_66 : decode cX11_readText 66 = .ok (.bipush 40, 2) := by decide +kernel
theorem dX11_readText_68 : decode cX11_readText 68 = .ok (.if_icmp .ne 7, 3) := by decide +kernel
theorem dX11_readText_71 : decode cX11_readText 71 = .ok (.iconst 1, 1) := by decide +kernel
theorem dX11_readText_72 : decode cX11_readText 72 = .ok (.goto 20, 3) := by decide +kernel
theorem dX11_readText_75 : decode cX11_readText 75 = .ok (.aload_n 0, 1) := by decide +kernel
theorem dX11_readText_76 : decode cX11_readText 76 = .ok (.getfield 19, 3) := by decide +kernel
theorem dX11_readText_79 : decode cX11_readText 79 = .ok (.iload 4, 2) := by decide +kernel
theorem dX11_readText_81 : decode cX11_readText 81 = .ok (.baload, 1) := by decide +kernel
theorem dX11_readText_82 : decode cX11_readText 82 = .ok (.bipush 41, 2) := by decide +kernel
theorem dX11_readText_84 : decode cX11_readText 84 = .ok (.if_icmp .ne 7, 3) := by decide +kernel
theorem dX11_readText_87 : decode cX11_readText 87 = .ok (.iconst (-1), 1) := by decide +kernel
theorem dX11_readText_88 : decode cX11_readText 88 = .ok (.goto 4, 3) := by decide +kernel
theorem dX11_readText_91 : decode cX11_readText 91 = .ok (.iconst 0, 1) := by decide +kernel
theorem dX11_readText_92 : decode cX11_readText 92 = .ok (.iadd, 1) := by decide +kernel
theorem dX11_readText_93 : decode cX11_readText 93 = .ok (.istore_n 3, 1) := by decide +kernel
theorem dX11_readText_94 : decode cX11_readText 94 = .ok (.iload 6, 2) := by decide +kernel
theorem dX11_readText_96 : decode cX11_readText 96 = .ok (.istore_n 2, 1) := by decide +kernel
theorem dX11_readText_97 : decode cX11_readText 97 = .ok (.iinc 4 1, 3) := by decide +kernel
theorem dX11_readText_100 : decode cX11_readText 100 = .ok (.goto (-90), 3) := by decide +kernel
theorem dX11_readText_103 : decode cX11_readText 103 = .ok (.aload_n 0, 1) := by decide +kernel
theorem dX11_readText_104 : decode cX11_readText 104 = .ok (.iload 4, 2) := by decide +kernel
theorem dX11_readText_106 : decode cX11_readText 106 = .ok (.putfield 149, 3) := by decide +kernel
theorem dX11_readText_109 : decode cX11_readText 109 = .ok (.aload_n 0, 1) := by decide +kernel
theorem dX11_readText_110 : decode cX11_readText 110 = .ok (.iload 4, 2) := by decide +kernel
theorem dX11_readText_112 : decode cX11_readText 112 = .ok (.aload_n 0, 1) := by decide +kernel
theorem dX11_readText_113 : decode cX11_readText 113 = .ok (.getfield 133, 3) := by decide +kernel
theorem dX11_readText_116 : decode cX11_readText 116 = .ok (.if_icmp .ne 39, 3) := by decide +kernel
theorem dX11_readText_119 : decode cX11_readText 119 = .ok (.iload_n 3, 1) := by decide +kernel
theorem dX11_readText_120 : decode cX11_readText 120 = .ok (.ifCond .ne 35, 3) := by decide +kernel
theorem dX11_readText_123 : decode cX11_readText 123 = .ok (.iload_n 1, 1) := by decide +kernel
theorem dX11_readText_124 : decode cX11_readText 124 = .ok (.ifCond .ne 16, 3) := by decide +kernel
theorem dX11_readText_127 : decode cX11_readText 127 = .ok (.iload_n 2, 1) := by decide +kernel
theorem dX11_readText_128 : decode cX11_readText 128 = .ok (.iconst 5, 1) := by decide +kernel
theorem dX11_readText_129 : decode cX11_readText 129 = .ok (.bipush 7, 2) := by decide +kernel
theorem dX11_readText_131 : decode cX11_readText 131 = .ok (.invokestatic 89, 3) := by decide +kernel
theorem dX11_readText_134 : decode cX11_readText 134 = .ok (.ifCond .eq 21, 3) := by decide +kernel
theorem dX11_readText_137 : decode cX11_readText 137 = .ok (.goto 14, 3) := by decide +kernel
theorem dX11_readText_140 : decode cX11_readText 140 = .ok (.iload_n 2, 1) := by decide +kernel
theorem dX11_readText_141 : decode cX11_readText 141 = .ok (.bipush 11, 2) := by decide +kernel
theorem dX11_readText_143 : decode cX11_readText 143 = .ok (.bipush 12, 2) := by decide +kernel
theorem dX11_readText_145 : decode cX11_readText 145 = .ok (.invokestatic 89, 3) := by decide +kernel
theorem dX11_readText_148 : decode cX11_readText 148 = .ok (.ifCond .eq 7, 3) := by decide +kernel
theorem dX11_readText_151 : decode cX11_readText 151 = .ok (.iconst 1, 1) := by decide +kernel
theorem dX11_readText_152 : decode cX11_readText 152 = .ok (.goto 4, 3) := by decide +kernel
theorem dX11_readText_155 : decode cX11_readText 155 = .ok (.iconst 0, 1) := by decide +kernel
theorem dX11_readText_156 : decode cX11_readText 156 = .ok (.putfield 152, 3) := by decide +kernel
theorem dX11_readText_159 : decode cX11_readText 159 = .ok (.return_, 1) := by decide +kernel
theorem dX11_good_0 : decode cX11_good 0 = .ok (.iload_n 1, 1) := by decide +kernel
theorem dX11_good_1 : decode cX11_good 1 = .ok (.iconst 0, 1) := by decide +kernel
theorem dX11_good_2 : decode cX11_good 2 = .ok (.iconst 1, 1) := by decide +kernel
theorem dX11_good_3 : decode cX11_good 3 = .ok (.invokestatic 89, 3) := by decide +kernel
theorem dX11_good_6 : decode cX11_good 6 = .ok (.ifCond .ne 6, 3) := by decide +kernel
theorem dX11_good_9 : decode cX11_good 9 = .ok (.bipush (-102), 2) := by decide +kernel
theorem dX11_good_11 : decode cX11_good 11 = .ok (.ireturn, 1) := by decide +kernel
theorem dX11_good_12 : decode cX11_good 12 = .ok (.aload_n 0, 1) := by decide +kernel
theorem dX11_good_13 : decode cX11_good 13 = .ok (.iload_n 1, 1) := by decide +kernel
theorem dX11_good_14 : decode cX11_good 14 = .ok (.invokevirtual 155, 3) := by decide +kernel
theorem dX11_good_17 : decode cX11_good 17 = .ok (.aload_n 0, 1) := by decide +kernel
theorem dX11_good_18 : decode cX11_good 18 = .ok (.getfield 149, 3) := by decide +kernel
theorem dX11_good_21 : decode cX11_good 21 = .ok (.ireturn, 1) := by decide +kernel
theorem dX11_rule_0 : decode cX11_rule 0 = .ok (.aload_n 0, 1) := by decide +kernel
theorem dX11_rule_1 : decode cX11_rule 1 = .ok (.iconst 0, 1) := by decide +kernel
theorem dX11_rule_2 : decode cX11_rule 2 = .ok (.invokevirtual 155, 3) := by decide +kernel
theorem dX11_rule_5 : decode cX11_rule 5 = .ok (.aload_n 0, 1) := by decide +kernel
theorem dX11_rule_6 : decode cX11_rule 6 = .ok (.getfield 152, 3) := by decide +kernel
theorem dX11_rule_9 : decode cX11_rule 9 = .ok (.ifCond .ne 6, 3) := by decide +kernel
theorem dX11_rule_12 : decode cX11_rule 12 = .ok (.bipush (-103), 2) := by decide +kernel
theorem dX11_rule_14 : decode cX11_rule 14 = .ok (.ireturn, 1) := by decide +kernel
theorem dX11_rule_15 : decode cX11_rule 15 = .ok (.aload_n 0, 1) := by decide +kernel
theorem dX11_rule_16 : decode cX11_rule 16 = .ok (.getfield 111, 3) := by decide +kernel
theorem dX11_rule_19 : decode cX11_rule 19 = .ok (.bipush 6, 2) := by decide +kernel
theorem dX11_rule_21 : decode cX11_rule 21 = .ok (.if_icmp .ne 6, 3) := by decide +kernel
theorem dX11_rule_24 : decode cX11_rule 24 = .ok (.bipush (-104), 2) := by decide +kernel
theorem dX11_rule_26 : decode cX11_rule 26 = .ok (.ireturn, 1) := by decide +kernel
theorem dX11_rule_27 : decode cX11_rule 27 = .ok (.iconst 0, 1) := by decide +kernel
theorem dX11_rule_28 : decode cX11_rule 28 = .ok (.istore_n 1, 1) := by decide +kernel
theorem dX11_rule_29 : decode cX11_rule 29 = .ok (.iload_n 1, 1) := by decide +kernel
theorem dX11_rule_30 : decode cX11_rule 30 = .ok (.aload_n 0, 1) := by decide +kernel
theorem dX11_rule_31 : decode cX11_rule 31 = .ok (.getfield 133, 3) := by decide +kernel
theorem dX11_rule_34 : decode cX11_rule 34 = .ok (.if_icmp .ge 29, 3) := by decide +kernel
theorem dX11_rule_37 : decode cX11_rule 37 = .ok (.aload_n 0, 1) := by decide +kernel
theorem dX11_rule_38 : decode cX11_rule 38 = .ok (.getfield 23, 3) := by decide +kernel
theorem dX11_rule_41 : decode cX11_rule 41 = .ok (.bipush 60, 2) := by decide +kernel
theorem dX11_rule_43 : decode cX11_rule 43 = .ok (.aload_n 0, 1) := by decide +kernel
theorem dX11_rule_44 : decode cX11_rule 44 = .ok (.getfield 111, 3) := by decide +kernel
theorem dX11_rule_47 : decode cX11_rule 47 = .ok (.imul, 1) := by decide +kernel
theorem dX11_rule_48 : decode cX11_rule 48 = .ok (.iload_n 1, 1) := by decide +kernel
theorem dX11_rule_49 : decode cX11_rule 49 = .ok (.iadd, 1) := by decide +kernel
theorem dX11_rule_50 : decode cX11_rule 50 = .ok (.aload_n 0, 1) := by decide +kernel
theorem dX11_rule_51 : decode cX11_rule 51 = .ok (.getfield 19, 3) := by decide +kernel
theorem dX11_rule_54 : decode cX11_rule 54 = .ok (.iload_n 1, 1) := by decide +kernel
theorem dX11_rule_55 : decode cX11_rule 55 = .ok (.baload, 1) := by decide +kernel
theorem dX11_rule_56 : decode cX11_rule 56 = .ok (.bastore, 1) := by decide +kernel
theorem dX11_rule_57 : decode cX11_rule 57 = .ok (.iinc 1 1, 3) := by decide +kernel
theorem dX11_rule_60 : decode cX11_rule 60 = .ok (.goto (-31), 3) := by decide +kernel
theorem dX11_rule_63 : decode cX11_rule 63 = .ok (.aload_n 0, 1) := by decide +kernel
theorem dX11_rule_64 : decode cX11_rule 64 = .ok (.getfield 26, 3) := by decide +kernel
theorem dX11_rule_67 : decode cX11_rule 67 = .ok (.aload_n 0, 1) := by decide +kernel
theorem dX11_rule_68 : decode cX11_rule 68 = .ok (.getfield 111, 3) := by decide +kernel
theorem dX11_rule_71 : decode cX11_rule 71 = .ok (.aload_n 0, 1) := by decide +kernel
theorem dX11_rule_72 : decode cX11_rule 72 = .ok (.getfield 133, 3) := by decide +kernel
theorem dX11_rule_75 : decode cX11_rule 75 = .ok (.iastore, 1) := by decide +kernel
theorem dX11_rule_76 : decode cX11_rule 76 = .ok (.aload_n 0, 1) := by decide +kernel
theorem dX11_rule_77 : decode cX11_rule 77 = .ok (.getfield 29, 3) := by decide +kernel
theorem dX11_rule_80 : decode cX11_rule 80 = .ok (.aload_n 0, 1) := by decide +kernel
theorem dX11_rule_81 : decode cX11_rule 81 = .ok (.getfield 111, 3) := by decide +kernel
theorem dX11_rule_84 : decode cX11_rule 84 = .ok (.iconst 0, 1) := by decide +kernel
theorem dX11_rule_85 : decode cX11_rule 85 = .ok (.bastore, 1) := by decide +kernel
theorem dX11_rule_86 : decode cX11_rule 86 = .ok (.aload_n 0, 1) := by decide +kernel
theorem dX11_rule_87 : decode cX11_rule 87 = .ok (.dup, 1) := by decide +kernel
theorem dX11_rule_88 : decode cX11_rule 88 = .ok (.getfield 111, 3) := by decide +kernel
theorem dX11_rule_91 : decode cX11_rule 91 = .ok (.iconst 1, 1) := by decide +kernel
theorem dX11_rule_92 : decode cX11_rule 92 = .ok (.iadd, 1) := by decide +kernel
theorem dX11_rule_93 : decode cX11_rule 93 = .ok (.putfield 111, 3) := by decide +kernel
theorem dX11_rule_96 : decode cX11_rule 96 = .ok (.aload_n 0, 1) := by decide +kernel
theorem dX11_rule_97 : decode cX11_rule 97 = .ok (.iconst 0, 1) := by decide +kernel
theorem dX11_rule_98 : decode cX11_rule 98 = .ok (.putfield 133, 3) := by decide +kernel
theorem dX11_rule_101 : decode cX11_rule 101 = .ok (.aload_n 0, 1) := by decide +kernel
theorem dX11_rule_102 : decode cX11_rule 102 = .ok (.iconst 0, 1) := by decide +kernel
theorem dX11_rule_103 : decode cX11_rule 103 = .ok (.putfield 100, 3) := by decide +kernel
theorem dX11_rule_106 : decode cX11_rule 106 = .ok (.aload_n 0, 1) := by decide +kernel
theorem dX11_rule_107 : decode cX11_rule 107 = .ok (.getfield 111, 3) := by decide +kernel
theorem dX11_rule_110 : decode cX11_rule 110 = .ok (.iconst 1, 1) := by decide +kernel
theorem dX11_rule_111 : decode cX11_rule 111 = .ok (.isub, 1) := by decide +kernel
theorem dX11_rule_112 : decode cX11_rule 112 = .ok (.ireturn, 1) := by decide +kernel
theorem dX11_step_0 : decode cX11_step 0 = .ok (.aload_n 0, 1) := by decide +kernel
theorem dX11_step_1 : decode cX11_step 1 = .ok (.iconst 1, 1) := by decide +kernel
theorem dX11_step_2 : decode cX11_step 2 = .ok (.invokevirtual 155, 3) := by decide +kernel
theorem dX11_step_5 : decode cX11_step 5 = .ok (.aload_n 0, 1) := by decide +kernel
theorem dX11_step_6 : decode cX11_step 6 = .ok (.getfield 152, 3) := by decide +kernel
theorem dX11_step_9 : decode cX11_step 9 = .ok (.ifCond .ne 6, 3) := by decide +kernel
theorem dX11_step_12 : decode cX11_step 12 = .ok (.bipush (-103), 2) := by decide +kernel
theorem dX11_step_14 : decode cX11_step 14 = .ok (.ireturn, 1) := by decide +kernel
theorem dX11_step_15 : decode cX11_step 15 = .ok (.aload_n 0, 1) := by decide +kernel
theorem dX11_step_16 : decode cX11_step 16 = .ok (.getfield 159, 3) := by decide +kernel
theorem dX11_step_19 : decode cX11_step 19 = .ok (.bipush 8, 2) := by decide +kernel
theorem dX11_step_21 : decode cX11_step 21 = .ok (.if_icmp .ne 6, 3) := by decide +kernel
theorem dX11_step_24 : decode cX11_step 24 = .ok (.bipush (-104), 2) := by decide +kernel
theorem dX11_step_26 : decode cX11_step 26 = .ok (.ireturn, 1) := by decide +kernel
theorem dX11_step_27 : decode cX11_step 27 = .ok (.iconst 0, 1) := by decide +kernel
theorem dX11_step_28 : decode cX11_step 28 = .ok (.istore_n 1, 1) := by decide +kernel
theorem dX11_step_29 : decode cX11_step 29 = .ok (.iload_n 1, 1) := by decide +kernel
theorem dX11_step_30 : decode cX11_step 30 = .ok (.aload_n 0, 1) := by decide +kernel
theorem dX11_step_31 : decode cX11_step 31 = .ok (.getfield 133, 3) := by decide +kernel
theorem dX11_step_34 : decode cX11_step 34 = .ok (.if_icmp .ge 29, 3) := by decide +kernel
theorem dX11_step_37 : decode cX11_step 37 = .ok (.aload_n 0, 1) := by decide +kernel
theorem dX11_step_38 : decode cX11_step 38 = .ok (.getfield 33, 3) := by decide +kernel
theorem dX11_step_41 : decode cX11_step 41 = .ok (.bipush 60, 2) := by decide +kernel
theorem dX11_step_43 : decode cX11_step 43 = .ok (.aload_n 0, 1) := by decide +kernel
theorem dX11_step_44 : decode cX11_step 44 = .ok (.getfield 159, 3) := by decide +kernel
theorem dX11_step_47 : decode cX11_step 47 = .ok (.imul, 1) := by decide +kernel
theorem dX11_step_48 : decode cX11_step 48 = .ok (.iload_n 1, 1) := by decide +kernel
theorem dX11_step_49 : decode cX11_step 49 = .ok (.iadd, 1) := by decide +kernel
theorem dX11_step_50 : decode cX11_step 50 = .ok (.aload_n 0, 1) := by decide +kernel
theorem dX11_step_51 : decode cX11_step 51 = .ok (.getfield 19, 3) := by decide +kernel
theorem dX11_step_54 : decode cX11_step 54 = .ok (.iload_n 1, 1) := by decide +kernel
theorem dX11_step_55 : decode cX11_step 55 = .ok (.baload, 1) := by decide +kernel
theorem dX11_step_56 : decode cX11_step 56 = .ok (.bastore, 1) := by decide +kernel
theorem dX11_step_57 : decode cX11_step 57 = .ok (.iinc 1 1, 3) := by decide +kernel
theorem dX11_step_60 : decode cX11_step 60 = .ok (.goto (-31), 3) := by decide +kernel
theorem dX11_step_63 : decode cX11_step 63 = .ok (.aload_n 0, 1) := by decide +kernel
theorem dX11_step_64 : decode cX11_step 64 = .ok (.getfield 36, 3) := by decide +kernel
theorem dX11_step_67 : decode cX11_step 67 = .ok (.aload_n 0, 1) := by decide +kernel
theorem dX11_step_68 : decode cX11_step 68 = .ok (.getfield 159, 3) := by decide +kernel
theorem dX11_step_71 : decode cX11_step 71 = .ok (.aload_n 0, 1) := by decide +kernel
theorem dX11_step_72 : decode cX11_step 72 = .ok (.getfield 133, 3) := by decide +kernel
theorem dX11_step_75 : decode cX11_step 75 = .ok (.iastore, 1) := by decide +kernel
theorem dX11_step_76 : decode cX11_step 76 = .ok (.aload_n 0, 1) := by decide +kernel
theorem dX11_step_77 : decode cX11_step 77 = .ok (.dup, 1) := by decide +kernel
theorem dX11_step_78 : decode cX11_step 78 = .ok (.getfield 159, 3) := by decide +kernel
theorem dX11_step_81 : decode cX11_step 81 = .ok (.iconst 1, 1) := by decide +kernel
theorem dX11_step_82 : decode cX11_step 82 = .ok (.iadd, 1) := by decide +kernel
theorem dX11_step_83 : decode cX11_step 83 = .ok (.putfield 159, 3) := by decide +kernel
theorem dX11_step_86 : decode cX11_step 86 = .ok (.aload_n 0, 1) := by decide +kernel
theorem dX11_step_87 : decode cX11_step 87 = .ok (.iconst 0, 1) := by decide +kernel
theorem dX11_step_88 : decode cX11_step 88 = .ok (.putfield 133, 3) := by decide +kernel
theorem dX11_step_91 : decode cX11_step 91 = .ok (.aload_n 0, 1) := by decide +kernel
theorem dX11_step_92 : decode cX11_step 92 = .ok (.iconst 0, 1) := by decide +kernel
theorem dX11_step_93 : decode cX11_step 93 = .ok (.putfield 100, 3) := by decide +kernel
theorem dX11_step_96 : decode cX11_step 96 = .ok (.aload_n 0, 1) := by decide +kernel
theorem dX11_step_97 : decode cX11_step 97 = .ok (.getfield 159, 3) := by decide +kernel
theorem dX11_step_100 : decode cX11_step 100 = .ok (.iconst 1, 1) := by decide +kernel
theorem dX11_step_101 : decode cX11_step 101 = .ok (.isub, 1) := by decide +kernel
theorem dX11_step_102 : decode cX11_step 102 = .ok (.ireturn, 1) := by decide +kernel
theorem dX11_bare_0 : decode cX11_bare 0 = .ok (.aload_n 0, 1) := by decide +kernel
theorem dX11_bare_1 : decode cX11_bare 1 = .ok (.getfield 159, 3) := by decide +kernel
theorem dX11_bare_4 : decode cX11_bare 4 = .ok (.istore_n 1, 1) := by decide +kernel
theorem dX11_bare_5 : decode cX11_bare 5 = .ok (.aload_n 0, 1) := by decide +kernel
theorem dX11_bare_6 : decode cX11_bare 6 = .ok (.iconst 0, 1) := by decide +kernel
theorem dX11_bare_7 : decode cX11_bare 7 = .ok (.putfield 159, 3) := by decide +kernel
theorem dX11_bare_10 : decode cX11_bare 10 = .ok (.aload_n 0, 1) := by decide +kernel
theorem dX11_bare_11 : decode cX11_bare 11 = .ok (.iconst 0, 1) := by decide +kernel
theorem dX11_bare_12 : decode cX11_bare 12 = .ok (.putfield 100, 3) := by decide +kernel
theorem dX11_bare_15 : decode cX11_bare 15 = .ok (.iload_n 1, 1) := by decide +kernel
theorem dX11_bare_16 : decode cX11_bare 16 = .ok (.ireturn, 1) := by decide +kernel
theorem dX11_always_0 : decode cX11_always 0 = .ok (.iload_n 1, 1) := by decide +kernel
theorem dX11_always_1 : decode cX11_always 1 = .ok (.iconst 0, 1) := by decide +kernel
theorem dX11_always_2 : decode cX11_always 2 = .ok (.aload_n 0, 1) := by decide +kernel
theorem dX11_always_3 : decode cX11_always 3 = .ok (.getfield 111, 3) := by decide +kernel
theorem dX11_always_6 : decode cX11_always 6 = .ok (.iconst 1, 1) := by decide +kernel
theorem dX11_always_7 : decode cX11_always 7 = .ok (.isub, 1) := by decide +kernel
theorem dX11_always_8 : decode cX11_always 8 = .ok (.invokestatic 89, 3) := by decide +kernel
theorem dX11_always_11 : decode cX11_always 11 = .ok (.ifCond .ne 6, 3) := by decide +kernel
theorem dX11_always_14 : decode cX11_always 14 = .ok (.bipush (-101), 2) := by decide +kernel
theorem dX11_always_16 : decode cX11_always 16 = .ok (.ireturn, 1) := by decide +kernel
theorem dX11_always_17 : decode cX11_always 17 = .ok (.aload_n 0, 1) := by decide +kernel
theorem dX11_always_18 : decode cX11_always 18 = .ok (.getfield 29, 3) := by decide +kernel
theorem dX11_always_21 : decode cX11_always 21 = .ok (.iload_n 1, 1) := by decide +kernel
theorem dX11_always_22 : decode cX11_always 22 = .ok (.baload, 1) := by decide +kernel
theorem dX11_always_23 : decode cX11_always 23 = .ok (.ifCond .eq 7, 3) := by decide +kernel
theorem dX11_always_26 : decode cX11_always 26 = .ok (.iconst 1, 1) := by decide +kernel
theorem dX11_always_27 : decode cX11_always 27 = .ok (.goto 4, 3) := by decide +kernel
theorem dX11_always_30 : decode cX11_always 30 = .ok (.iconst 0, 1) := by decide +kernel
theorem dX11_always_31 : decode cX11_always 31 = .ok (.istore_n 3, 1) := by decide +kernel
theorem dX11_always_32 : decode cX11_always 32 = .ok (.aload_n 0, 1) := by decide +kernel
theorem dX11_always_33 : decode cX11_always 33 = .ok (.getfield 29, 3) := by decide +kernel
theorem dX11_always_36 : decode cX11_always 36 = .ok (.iload_n 1, 1) := by decide +kernel
theorem dX11_always_37 : decode cX11_always 37 = .ok (.iload_n 2, 1) := by decide +kernel
theorem dX11_always_38 : decode cX11_always 38 = .ok (.bastore, 1) := by decide +kernel
theorem dX11_always_39 : decode cX11_always 39 = .ok (.iload_n 3, 1) := by decide +kernel
theorem dX11_always_40 : decode cX11_always 40 = .ok (.ireturn, 1) := by decide +kernel
theorem dX11_sign_0 : decode cX11_sign 0 = .ok (.aload_n 0, 1) := by decide +kernel
theorem dX11_sign_1 : decode cX11_sign 1 = .ok (.getfield 162, 3) := by decide +kernel
theorem dX11_sign_4 : decode cX11_sign 4 = .ok (.aload_n 0, 1) := by decide +kernel
theorem dX11_sign_5 : decode cX11_sign 5 = .ok (.getfield 165, 3) := by decide +kernel
theorem dX11_sign_8 : decode cX11_sign 8 = .ok (.if_icmp .lt 7, 3) := by decide +kernel
theorem dX11_sign_11 : decode cX11_sign 11 = .ok (.iconst 0, 1) := by decide +kernel
theorem dX11_sign_12 : decode cX11_sign 12 = .ok (.goto 41, 3) := by decide +kernel
theorem dX11_sign_15 : decode cX11_sign 15 = .ok (.aload_n 0, 1) := by decide +kernel
theorem dX11_sign_16 : decode cX11_sign 16 = .ok (.getfield 168, 3) := by decide +kernel
theorem dX11_sign_19 : decode cX11_sign 19 = .ok (.ifCond .eq 20, 3) := by decide +kernel
theorem dX11_sign_22 : decode cX11_sign 22 = .ok (.aload_n 0, 1) := by decide +kernel
theorem dX11_sign_23 : decode cX11_sign 23 = .ok (.getfield 33, 3) := by decide +kernel
theorem dX11_sign_26 : decode cX11_sign 26 = .ok (.aload_n 0, 1) := by decide +kernel
theorem dX11_sign_27 : decode cX11_sign 27 = .ok (.getfield 171, 3) := by decide +kernel
theorem dX11_sign_30 : decode cX11_sign 30 = .ok (.aload_n 0, 1) := by decide +kernel
theorem dX11_sign_31 : decode cX11_sign 31 = .ok (.getfield 162, 3) := by decide +kernel
theorem dX11_sign_34 : decode cX11_sign 34 = .ok (.iadd, 1) := by decide +kernel
theorem dX11_sign_35 : decode cX11_sign 35 = .ok (.baload, 1) := by decide +kernel
theorem dX11_sign_36 : decode cX11_sign 36 = .ok (.goto 17, 3) := by decide +kernel
theorem dX11_sign_39 : decode cX11_sign 39 = .ok (.aload_n 0, 1) := by decide +kernel
theorem dX11_sign_40 : decode cX11_sign 40 = .ok (.getfield 23, 3) := by decide +kernel
theorem dX11_sign_43 : decode cX11_sign 43 = .ok (.aload_n 0, 1) := by decide +kernel
theorem dX11_sign_44 : decode cX11_sign 44 = .ok (.getfield 171, 3) := by decide +kernel
theorem dX11_sign_47 : decode cX11_sign 47 = .ok (.aload_n 0, 1) := by decide +kernel
theorem dX11_sign_48 : decode cX11_sign 48 = .ok (.getfield 162, 3) := by decide +kernel
theorem dX11_sign_51 : decode cX11_sign 51 = .ok (.iadd, 1) := by decide +kernel
theorem dX11_sign_52 : decode cX11_sign 52 = .ok (.baload, 1) := by decide +kernel
theorem dX11_sign_53 : decode cX11_sign 53 = .ok (.ireturn, 1) := by decide +kernel
theorem dX11_sumHere_0 : decode cX11_sumHere 0 = .ok (.iconst 0, 1) := by decide +kernel
theorem dX11_sumHere_1 : decode cX11_sumHere 1 = .ok (.istore_n 1, 1) := by decide +kernel
theorem dX11_sumHere_2 : decode cX11_sumHere 2 = .ok (.iconst 1, 1) := by decide +kernel
theorem dX11_sumHere_3 : decode cX11_sumHere 3 = .ok (.istore_n 2, 1) := by decide +kernel
theorem dX11_sumHere_4 : decode cX11_sumHere 4 = .ok (.iconst 1, 1) := by decide +kernel
theorem dX11_sumHere_5 : decode cX11_sumHere 5 = .ok (.istore_n 3, 1) := by decide +kernel
theorem dX11_sumHere_6 : decode cX11_sumHere 6 = .ok (.iload_n 3, 1) := by decide +kernel
theorem dX11_sumHere_7 : decode cX11_sumHere 7 = .ok (.ifCond .eq 157, 3) := by decide +kernel
theorem dX11_sumHere_10 : decode cX11_sumHere 10 = .ok (.aload_n 0, 1) := by decide +kernel
theorem dX11_sumHere_11 : decode cX11_sumHere 11 = .ok (.invokevirtual 174, 3) := by decide +kernel
theorem dX11_sumHere_14 : decode cX11_sumHere 14 = .ok (.istore 4, 2) := by decide +kernel
theorem dX11_sumHere_16 : decode cX11_sumHere 16 = .ok (.aload_n 0, 1) := by decide +kernel
theorem dX11_sumHere_17 : decode cX11_sumHere 17 = .ok (.dup, 1) := by decide +kernel
theorem dX11_sumHere_18 : decode cX11_sumHere 18 = .ok (.getfield 162, 3) := by decide +kernel
theorem dX11_sumHere_21 : decode cX11_sumHere 21 = .ok (.iconst 1, 1) := by decide +kernel
theorem dX11_sumHere_22 : decode cX11_sumHere 22 = .ok (.iadd, 1) := by decide +kernel
theorem dX11_sumHere_23 : decode cX11_sumHere 23 = .ok (.putfield 162, 3) := by decide +kernel
theorem dX11_sumHere_26 : decode cX11_sumHere 26 = .ok (.iload 4, 2) := by decide +kernel
theorem dX11_sumHere_28 : decode cX11_sumHere 28 = .ok (.invokestatic 136, 3) := by decide +kernel
theorem dX11_sumHere_31 : decode cX11_sumHere 31 = .ok (.ifCond .eq 16, 3) := by decide +kernel
theorem dX11_sumHere_34 : decode cX11_sumHere 34 = .ok (.aload_n 0, 1) := by decide +kernel
theorem dX11_sumHere_35 : decode cX11_sumHere 35 = .ok (.getfield 46, 3) := by decide +kernel
theorem dX11_sumHere_38 : decode cX11_sumHere 38 = .ok (.iload 4, 2) := by decide +kernel
theorem dX11_sumHere_40 : decode cX11_sumHere 40 = .ok (.bipush 97, 2) := by decide +kernel
theorem dX11_sumHere_42 : decode cX11_sumHere 42 = .ok (.isub, 1) := by decide +kernel
theorem dX11_sumHere_43 : decode cX11_sumHere 43 = .ok (.iaload, 1) := by decide +kernel
theorem dX11_sumHere_44 : decode cX11_sumHere 44 = .ok (.goto 8, 3) := by decide +kernel
theorem dX11_sumHere_47 : decode cX11_sumHere 47 = .ok (.iload 4, 2) := by decide +kernel
theorem dX11_sumHere_49 : decode cX11_sumHere 49 = .ok (.bipush 48, 2) := by decide +kernel
theorem dX11_sumHere_51 : decode cX11_sumHere 51 = .ok (.isub, 1) := by decide +kernel
theorem dX11_sumHere_52 : decode cX11_sumHere 52 = .ok (.istore 5, 2) := by decide +kernel
theorem dX11_sumHere_54 : decode cX11_sumHere 54 = .ok (.iload 4, 2) := by decide +kernel
theorem dX11_sumHere_56 : decode cX11_sumHere 56 = .ok (.invokestatic 139, 3) := by decide +kernel
theorem dX11_sumHere_59 : decode cX11_sumHere 59 = .ok (.ifCond .eq 38, 3) := by decide +kernel
theorem dX11_sumHere_62 : decode cX11_sumHere 62 = .ok (.aload_n 0, 1) := by decide +kernel
theorem dX11_sumHere_63 : decode cX11_sumHere 63 = .ok (.invokevirtual 174, 3) := by decide +kernel
theorem dX11_sumHere_66 : decode cX11_sumHere 66 = .ok (.invokestatic 139, 3) := by decide +kernel
theorem dX11_sumHere_69 : decode cX11_sumHere 69 = .ok (.ifCond .eq 28, 3) := by decide +kernel
theorem dX11_sumHere_72 : decode cX11_sumHere 72 = .ok (.bipush 10, 2) := by decide +kernel
theorem dX11_sumHere_74 : decode cX11_sumHere 74 = .ok (.iload 5, 2) := by decide +kernel
theorem dX11_sumHere_76 : decode cX11_sumHere 76 = .ok (.imul, 1) := by decide +kernel
theorem dX11_sumHere_77 : decode cX11_sumHere 77 = .ok (.aload_n 0, 1) := by decide +kernel
theorem dX11_sumHere_78 : decode cX11_sumHere 78 = .ok (.invokevirtual 174, 3) := by decide +kernel
theorem dX11_sumHere_81 : decode cX11_sumHere 81 = .ok (.iadd, 1) := by decide +kernel
theorem dX11_sumHere_82 : decode cX11_sumHere 82 = .ok (.bipush 48, 2) := by decide +kernel
theorem dX11_sumHere_84 : decode cX11_sumHere 84 = .ok (.isub, 1) := by decide +kernel
theorem dX11_sumHere_85 : decode cX11_sumHere 85 = .ok (.istore 5, 2) := by decide +kernel
theorem dX11_sumHere_87 : decode cX11_sumHere 87 = .ok (.aload_n 0, 1) := by decide +kernel
theorem dX11_sumHere_88 : decode cX11_sumHere 88 = .ok (.dup, 1) := by decide +kernel
theorem dX11_sumHere_89 : decode cX11_sumHere 89 = .ok (.getfield 162, 3) := by decide +kernel
theorem dX11_sumHere_92 : decode cX11_sumHere 92 = .ok (.iconst 1, 1) := by decide +kernel
theorem dX11_sumHere_93 : decode cX11_sumHere 93 = .ok (.iadd, 1) := by decide +kernel
theorem dX11_sumHere_94 : decode cX11_sumHere 94 = .ok (.putfield 162, 3) := by decide +kernel
theorem dX11_sumHere_97 : decode cX11_sumHere 97 = .ok (.iload_n 1, 1) := by decide +kernel
theorem dX11_sumHere_98 : decode cX11_sumHere 98 = .ok (.iload_n 2, 1) := by decide +kernel
theorem dX11_sumHere_99 : decode cX11_sumHere 99 = .ok (.iload 5, 2) := by decide +kernel
theorem dX11_sumHere_101 : decode cX11_sumHere 101 = .ok (.imul, 1) := by decide +kernel
theorem dX11_sumHere_102 : decode cX11_sumHere 102 = .ok (.iadd, 1) := by decide +kernel
theorem dX11_sumHere_103 : decode cX11_sumHere 103 = .ok (.istore_n 1, 1) := by decide +kernel
theorem dX11_sumHere_104 : decode cX11_sumHere 104 = .ok (.aload_n 0, 1) := by decide +kernel
theorem dX11_sumHere_105 : decode cX11_sumHere 105 = .ok (.invokevirtual 174, 3) := by decide +kernel
theorem dX11_sumHere_108 : decode cX11_sumHere 108 = .ok (.bipush 43, 2) := by decide +kernel
theorem dX11_sumHere_110 : decode cX11_sumHere 110 = .ok (.if_icmp .eq 12, 3) := by decide +kernel
theorem dX11_sumHere_113 : decode cX11_sumHere 113 = .ok (.aload_n 0, 1) := by decide +kernel
theorem dX11_sumHere_114 : decode cX11_sumHere 114 = .ok (.invokevirtual 174, 3) := by decide +kernel
theorem dX11_sumHere_117 : decode cX11_sumHere 117 = .ok (.bipush 45, 2) := by decide +kernel
theorem dX11_sumHere_119 : decode cX11_sumHere 119 = .ok (.if_icmp .ne 7, 3) := by decide +kernel
theorem dX11_sumHere_122 : decode cX11_sumHere 122 = .ok (.iconst 1, 1) := by decide +kernel
theorem dX11_sumHere_123 : decode cX11_sumHere 123 = .ok (.goto 4, 3) := by decide +kernel
theorem dX11_sumHere_126 : decode cX11_sumHere 126 = .ok (.iconst 0, 1) := by decide +kernel
theorem dX11_sumHere_127 : decode cX11_sumHere 127 = .ok (.istore_n 3, 1) := by decide +kernel
theorem dX11_sumHere_128 : decode cX11_sumHere 128 = .ok (.aload_n 0, 1) := by decide +kernel
theorem dX11_sumHere_129 : decode cX11_sumHere 129 = .ok (.invokevirtual 174, 3) := by decide +kernel
theorem dX11_sumHere_132 : decode cX11_sumHere 132 = .ok (.bipush 43, 2) := by decide +kernel
theorem dX11_sumHere_134 : decode cX11_sumHere 134 = .ok (.if_icmp .ne 7, 3) := by decide +kernel
theorem dX11_sumHere_137 : decode cX11_sumHere 137 = .ok (.iconst 1, 1) := by decide +kernel
theorem dX11_sumHere_138 : decode cX11_sumHere 138 = .ok (.goto 4, 3) := by decide +kernel
theorem dX11_sumHere_141 : decode cX11_sumHere 141 = .ok (.iconst (-1), 1) := by decide +kernel
theorem dX11_sumHere_142 : decode cX11_sumHere 142 = .ok (.istore_n 2, 1) := by decide +kernel
theorem dX11_sumHere_143 : decode cX11_sumHere 143 = .ok (.aload_n 0, 1) := by decide +kernel
theorem dX11_sumHere_144 : decode cX11_sumHere 144 = .ok (.dup, 1) := by decide +kernel
theorem dX11_sumHere_145 : decode cX11_sumHere 145 = .ok (.getfield 162, 3) := by decide +kernel
theorem dX11_sumHere_148 : decode cX11_sumHere 148 = .ok (.iload_n 3, 1) := by decide +kernel
theorem dX11_sumHere_149 : decode cX11_sumHere 149 = .ok (.ifCond .eq 7, 3) := by decide +kernel
theorem dX11_sumHere_152 : decode cX11_sumHere 152 = .ok (.iconst 1, 1) := by decide +kernel
theorem dX11_sumHere_153 : decode cX11_sumHere 153 = .ok (.goto 4, 3) := by decide +kernel
theorem dX11_sumHere_156 : decode cX11_sumHere 156 = .ok (.iconst 0, 1) := by decide +kernel
theorem dX11_sumHere_157 : decode cX11_sumHere 157 = .ok (.iadd, 1) := by decide +kernel
theorem dX11_sumHere_158 : decode cX11_sumHere 158 = .ok (.putfield 162, 3) := by decide +kernel
theorem dX11_sumHere_161 : decode cX11_sumHere 161 = .ok (.goto (-155), 3) := by decide +kernel
theorem dX11_sumHere_164 : decode cX11_sumHere 164 = .ok (.iload_n 1, 1) := by decide +kernel
theorem dX11_sumHere_165 : decode cX11_sumHere 165 = .ok (.ireturn, 1) := by decide +kernel
theorem dX11_openGroup_0 : decode cX11_openGroup 0 = .ok (.aload_n 0, 1) := by decide +kernel
theorem dX11_openGroup_1 : decode cX11_openGroup 1 = .ok (.dup, 1) := by decide +kernel
theorem dX11_openGroup_2 : decode cX11_openGroup 2 = .ok (.getfield 178, 3) := by decide +kernel
theorem dX11_openGroup_5 : decode cX11_openGroup 5 = .ok (.iconst 1, 1) := by decide +kernel
theorem dX11_openGroup_6 : decode cX11_openGroup 6 = .ok (.iadd, 1) := by decide +kernel
theorem dX11_openGroup_7 : decode cX11_openGroup 7 = .ok (.putfield 178, 3) := by decide +kernel
theorem dX11_openGroup_10 : decode cX11_openGroup 10 = .ok (.aload_n 0, 1) := by decide +kernel
theorem dX11_openGroup_11 : decode cX11_openGroup 11 = .ok (.getfield 49, 3) := by decide +kernel
theorem dX11_openGroup_14 : decode cX11_openGroup 14 = .ok (.aload_n 0, 1) := by decide +kernel
theorem dX11_openGroup_15 : decode cX11_openGroup 15 = .ok (.getfield 178, 3) := by decide +kernel
theorem dX11_openGroup_18 : decode cX11_openGroup 18 = .ok (.iconst 0, 1) := by decide +kernel
theorem dX11_openGroup_19 : decode cX11_openGroup 19 = .ok (.bastore, 1) := by decide +kernel
theorem dX11_openGroup_20 : decode cX11_openGroup 20 = .ok (.aload_n 0, 1) := by decide +kernel
theorem dX11_openGroup_21 : decode cX11_openGroup 21 = .ok (.getfield 52, 3) := by decide +kernel
theorem dX11_openGroup_24 : decode cX11_openGroup 24 = .ok (.aload_n 0, 1) := by decide +kernel
theorem dX11_openGroup_25 : decode cX11_openGroup 25 = .ok (.getfield 178, 3) := by decide +kernel
theorem dX11_openGroup_28 : decode cX11_openGroup 28 = .ok (.iconst 1, 1) := by decide +kernel
theorem dX11_openGroup_29 : decode cX11_openGroup 29 = .ok (.bastore, 1) := by decide +kernel
theorem dX11_openGroup_30 : decode cX11_openGroup 30 = .ok (.aload_n 0, 1) := by decide +kernel
theorem dX11_openGroup_31 : decode cX11_openGroup 31 = .ok (.getfield 55, 3) := by decide +kernel
theorem dX11_openGroup_34 : decode cX11_openGroup 34 = .ok (.aload_n 0, 1) := by decide +kernel
theorem dX11_openGroup_35 : decode cX11_openGroup 35 = .ok (.getfield 178, 3) := by decide +kernel
theorem dX11_openGroup_38 : decode cX11_openGroup 38 = .ok (.iconst 0, 1) := by decide +kernel
theorem dX11_openGroup_39 : decode cX11_openGroup 39 = .ok (.bastore, 1) := by decide +kernel
theorem dX11_openGroup_40 : decode cX11_openGroup 40 = .ok (.return_, 1) := by decide +kernel
theorem dX11_factor_0 : decode cX11_factor 0 = .ok (.aload_n 0, 1) := by decide +kernel
theorem dX11_factor_1 : decode cX11_factor 1 = .ok (.getfield 52, 3) := by decide +kernel
theorem dX11_factor_4 : decode cX11_factor 4 = .ok (.aload_n 0, 1) := by decide +kernel
theorem dX11_factor_5 : decode cX11_factor 5 = .ok (.getfield 178, 3) := by decide +kernel
theorem dX11_factor_8 : decode cX11_factor 8 = .ok (.aload_n 0, 1) := by decide +kernel
theorem dX11_factor_9 : decode cX11_factor 9 = .ok (.getfield 52, 3) := by decide +kernel
theorem dX11_factor_12 : decode cX11_factor 12 = .ok (.aload_n 0, 1) := by decide +kernel
theorem dX11_factor_13 : decode cX11_factor 13 = .ok (.getfield 178, 3) := by decide +kernel
theorem dX11_factor_16 : decode cX11_factor 16 = .ok (.baload, 1) := by decide +kernel
theorem dX11_factor_17 : decode cX11_factor 17 = .ok (.ifCond .eq 20, 3) := by decide +kernel
theorem dX11_factor_20 : decode cX11_factor 20 = .ok (.iload_n 1, 1) := by decide +kernel
theorem dX11_factor_21 : decode cX11_factor 21 = .ok (.aload_n 0, 1) := by decide +kernel
theorem dX11_factor_22 : decode cX11_factor 22 = .ok (.getfield 55, 3) := by decide +kernel
theorem dX11_factor_25 : decode cX11_factor 25 = .ok (.aload_n 0, 1) := by decide +kernel
theorem dX11_factor_26 : decode cX11_factor 26 = .ok (.getfield 178, 3) := by decide +kernel
theorem dX11_factor_29 : decode cX11_factor 29 = .ok (.baload, 1) := by decide +kernel
theorem dX11_factor_30 : decode cX11_factor 30 = .ok (.if_icmp .eq 7, 3) := by decide +kernel
theorem dX11_factor_33 : decode cX11_factor 33 = .ok (.iconst 1, 1) := by decide +kernel
theorem dX11_factor_34 : decode cX11_factor 34 = .ok (.goto 4, 3) := by decide +kernel
theorem dX11_factor_37 : decode cX11_factor 37 = .ok (.iconst 0, 1) := by decide +kernel
theorem dX11_factor_38 : decode cX11_factor 38 = .ok (.bastore, 1) := by decide +kernel
theorem dX11_factor_39 : decode cX11_factor 39 = .ok (.aload_n 0, 1) := by decide +kernel
theorem dX11_factor_40 : decode cX11_factor 40 = .ok (.getfield 55, 3) := by decide +kernel
theorem dX11_factor_43 : decode cX11_factor 43 = .ok (.aload_n 0, 1) := by decide +kernel
theorem dX11_factor_44 : decode cX11_factor 44 = .ok (.getfield 178, 3) := by decide +kernel
theorem dX11_factor_47 : decode cX11_factor 47 = .ok (.iconst 0, 1) := by decide +kernel
theorem dX11_factor_48 : decode cX11_factor 48 = .ok (.bastore, 1) := by decide +kernel
theorem dX11_factor_49 : decode cX11_factor 49 = .ok (.return_, 1) := by decide +kernel
theorem dX11_holdsHere_0 : decode cX11_holdsHere 0 = .ok (.aload_n 0, 1) := by decide +kernel
theorem dX11_holdsHere_1 : decode cX11_holdsHere 1 = .ok (.iconst (-1), 1) := by decide +kernel
theorem dX11_holdsHere_2 : decode cX11_holdsHere 2 = .ok (.putfield 178, 3) := by decide +kernel
theorem dX11_holdsHere_5 : decode cX11_holdsHere 5 = .ok (.aload_n 0, 1) := by decide +kernel
theorem dX11_holdsHere_6 : decode cX11_holdsHere 6 = .ok (.invokevirtual 181, 3) := by decide +kernel
theorem dX11_holdsHere_9 : decode cX11_holdsHere 9 = .ok (.aload_n 0, 1) := by decide +kernel
theorem dX11_holdsHere_10 : decode cX11_holdsHere 10 = .ok (.invokevirtual 174, 3) := by decide +kernel
theorem dX11_holdsHere_13 : decode cX11_holdsHere 13 = .ok (.ifCond .eq 319, 3) := by decide +kernel
theorem dX11_holdsHere_16 : decode cX11_holdsHere 16 = .ok (.aload_n 0, 1) := by decide +kernel
theorem dX11_holdsHere_17 : decode cX11_holdsHere 17 = .ok (.invokevirtual 174, 3) := by decide +kernel
theorem dX11_holdsHere_20 : decode cX11_holdsHere 20 = .ok (.bipush 58, 2) := by decide +kernel
theorem dX11_holdsHere_22 : decode cX11_holdsHere 22 = .ok (.if_icmp .eq 310, 3) := by decide +kernel
theorem dX11_holdsHere_25 : decode cX11_holdsHere 25 = .ok (.aload_n 0, 1) := by decide +kernel
theorem dX11_holdsHere_26 : decode cX11_holdsHere 26 = .ok (.invokevirtual 174, 3) := by decide +kernel
theorem dX11_holdsHere_29 : decode cX11_holdsHere 29 = .ok (.istore_n 1, 1) := by decide +kernel
theorem dX11_holdsHere_30 : decode cX11_holdsHere 30 = .ok (.iload_n 1, 1) := by decide +kernel
theorem dX11_holdsHere_31 : decode cX11_holdsHere 31 = .ok (.bipush 33, 2) := by decide +kernel
theorem dX11_holdsHere_33 : decode cX11_holdsHere 33 = .ok (.if_icmp .ne 42, 3) := by decide +kernel
theorem dX11_holdsHere_36 : decode cX11_holdsHere 36 = .ok (.aload_n 0, 1) := by decide +kernel
theorem dX11_holdsHere_37 : decode cX11_holdsHere 37 = .ok (.getfield 55, 3) := by decide +kernel
theorem dX11_holdsHere_40 : decode cX11_holdsHere 40 = .ok (.aload_n 0, 1) := by decide +kernel
theorem dX11_holdsHere_41 : decode cX11_holdsHere 41 = .ok (.getfield 178, 3) := by decide +kernel
theorem dX11_holdsHere_44 : decode cX11_holdsHere 44 = .ok (.aload_n 0, 1) := by decide +kernel
theorem dX11_holdsHere_45 : decode cX11_holdsHere 45 = .ok (.getfield 55, 3) := by decide +kernel
theorem dX11_holdsHere_48 : decode cX11_holdsHere 48 = .ok (.aload_n 0, 1) := by decide +kernel
theorem dX11_holdsHere_49 : decode cX11_holdsHere 49 = .ok (.getfield 178, 3) := by decide +kernel
theorem dX11_holdsHere_52 : decode cX11_holdsHere 52 = .ok (.baload, 1) := by decide +kernel
theorem dX11_holdsHere_53 : decode cX11_holdsHere 53 = .ok (.ifCond .ne 7, 3) := by decide +kernel
theorem dX11_holdsHere_56 : decode cX11_holdsHere 56 = .ok (.iconst 1, 1) := by decide +kernel
theorem dX11_holdsHere_57 : decode cX11_holdsHere 57 = .ok (.goto 4, 3) := by decide +kernel
theorem dX11_holdsHere_60 : decode cX11_holdsHere 60 = .ok (.iconst 0, 1) := by decide +kernel
theorem dX11_holdsHere_61 : decode cX11_holdsHere 61 = .ok (.bastore, 1) := by decide +kernel
theorem dX11_holdsHere_62 : decode cX11_holdsHere 62 = .ok (.aload_n 0, 1) := by decide +kernel
theorem dX11_holdsHere_63 : decode cX11_holdsHere 63 = .ok (.dup, 1) := by decide +kernel
theorem dX11_holdsHere_64 : decode cX11_holdsHere 64 = .ok (.getfield 162, 3) := by decide +kernel
theorem dX11_holdsHere_67 : decode cX11_holdsHere 67 = .ok (.iconst 1, 1) := by decide +kernel
theorem dX11_holdsHere_68 : decode cX11_holdsHere 68 = .ok (.iadd, 1) := by decide +kernel
theorem dX11_holdsHere_69 : decode cX11_holdsHere 69 = .ok (.putfield 162, 3) := by decide +kernel
theorem dX11_holdsHere_72 : decode cX11_holdsHere 72 = .ok (.goto 257, 3) := by decide +kernel
theorem dX11_holdsHere_75 : decode cX11_holdsHere 75 = .ok (.iload_n 1, 1) := by decide +kernel
theorem dX11_holdsHere_76 : decode cX11_holdsHere 76 = .ok (.bipush 40, 2) := by decide +kernel
theorem dX11_holdsHere_78 : decode cX11_holdsHere 78 = .ok (.if_icmp .ne 20, 3) := by decide +kernel
theorem dX11_holdsHere_81 : decode cX11_holdsHere 81 = .ok (.aload_n 0, 1) := by decide +kernel
theorem dX11_holdsHere_82 : decode cX11_holdsHere 82 = .ok (.invokevirtual 181, 3) := by decide +kernel
theorem dX11_holdsHere_85 : decode cX11_holdsHere 85 = .ok (.aload_n 0, 1) := by decide +kernel
theorem dX11_holdsHere_86 : decode cX11_holdsHere 86 = .ok (.dup, 1) := by decide +kernel
theorem dX11_holdsHere_87 : decode cX11_holdsHere 87 = .ok (.getfield 162, 3) := by decide +kernel
theorem dX11_holdsHere_90 : decode cX11_holdsHere 90 = .ok (.iconst 1, 1) := by decide +kernel
theorem dX11_holdsHere_91 : decode cX11_holdsHere 91 = .ok (.iadd, 1) := by decide +kernel
theorem dX11_holdsHere_92 : decode cX11_holdsHere 92 = .ok (.putfield 162, 3) := by decide +kernel
theorem dX11_holdsHere_95 : decode cX11_holdsHere 95 = .ok (.goto 234, 3) := by decide +kernel
theorem dX11_holdsHere_98 : decode cX11_holdsHere 98 = .ok (.iload_n 1, 1) := by decide +kernel
theorem dX11_holdsHere_99 : decode cX11_holdsHere 99 = .ok (.bipush 41, 2) := by decide +kernel
theorem dX11_holdsHere_101 : decode cX11_holdsHere 101 = .ok (.if_icmp .ne 61, 3) := by decide +kernel
theorem dX11_holdsHere_104 : decode cX11_holdsHere 104 = .ok (.aload_n 0, 1) := by decide +kernel
theorem dX11_holdsHere_105 : decode cX11_holdsHere 105 = .ok (.getfield 49, 3) := by decide +kernel
theorem dX11_holdsHere_108 : decode cX11_holdsHere 108 = .ok (.aload_n 0, 1) := by decide +kernel
theorem dX11_holdsHere_109 : decode cX11_holdsHere 109 = .ok (.getfield 178, 3) := by decide +kernel
theorem dX11_holdsHere_112 : decode cX11_holdsHere 112 = .ok (.baload, 1) := by decide +kernel
theorem dX11_holdsHere_113 : decode cX11_holdsHere 113 = .ok (.ifCond .ne 15, 3) := by decide +kernel
theorem dX11_holdsHere_116 : decode cX11_holdsHere 116 = .ok (.aload_n 0, 1) := by decide +kernel
theorem dX11_holdsHere_117 : decode cX11_holdsHere 117 = .ok (.getfield 52, 3) := by decide +kernel
theorem dX11_holdsHere_120 : decode cX11_holdsHere 120 = .ok (.aload_n 0, 1) := by decide +kernel
theorem dX11_holdsHere_121 : decode cX11_holdsHere 121 = .ok (.getfield 178, 3) := by decide +kernel
theorem dX11_holdsHere_124 : decode cX11_holdsHere 124 = .ok (.baload, 1) := by decide +kernel
theorem dX11_holdsHere_125 : decode cX11_holdsHere 125 = .ok (.ifCond .eq 7, 3) := by decide +kernel
theorem dX11_holdsHere_128 : decode cX11_holdsHere 128 = .ok (.iconst 1, 1) := by decide +kernel
theorem dX11_holdsHere_129 : decode cX11_holdsHere 129 = .ok (.goto 4, 3) := by decide +kernel
theorem dX11_holdsHere_132 : decode cX11_holdsHere 132 = .ok (.iconst 0, 1) := by decide +kernel
theorem dX11_holdsHere_133 : decode cX11_holdsHere 133 = .ok (.istore_n 2, 1) := by decide +kernel
theorem dX11_holdsHere_134 : decode cX11_holdsHere 134 = .ok (.aload_n 0, 1) := by decide +kernel
theorem dX11_holdsHere_135 : decode cX11_holdsHere 135 = .ok (.dup, 1) := by decide +kernel
theorem dX11_holdsHere_136 : decode cX11_holdsHere 136 = .ok (.getfield 178, 3) := by decide +kernel
theorem dX11_holdsHere_139 : decode cX11_holdsHere 139 = .ok (.iconst 1, 1) := by decide +kernel
theorem dX11_holdsHere_140 : decode cX11_holdsHere 140 = .ok (.isub, 1) := by decide +kernel
theorem dX11_holdsHere_141 : decode cX11_holdsHere 141 = .ok (.putfield 178, 3) := by decide +kernel
theorem dX11_holdsHere_144 : decode cX11_holdsHere 144 = .ok (.aload_n 0, 1) := by decide +kernel
theorem dX11_holdsHere_145 : decode cX11_holdsHere 145 = .ok (.iload_n 2, 1) := by decide +kernel
theorem dX11_holdsHere_146 : decode cX11_holdsHere 146 = .ok (.invokevirtual 184, 3) := by decide +kernel
theorem dX11_holdsHere_149 : decode cX11_holdsHere 149 = .ok (.aload_n 0, 1) := by decide +kernel
theorem dX11_holdsHere_150 : decode cX11_holdsHere 150 = .ok (.dup, 1) := by decide +kernel
theorem dX11_holdsHere_151 : decode cX11_holdsHere 151 = .ok (.getfield 162, 3) := by decide +kernel
theorem dX11_holdsHere_154 : decode cX11_holdsHere 154 = .ok (.iconst 1, 1) := by decide +kernel
theorem dX11_holdsHere_155 : decode cX11_holdsHere 155 = .ok (.iadd, 1) := by decide +kernel
theorem dX11_holdsHere_156 : decode cX11_holdsHere 156 = .ok (.putfield 162, 3) := by decide +kernel
theorem dX11_holdsHere_159 : decode cX11_holdsHere 159 = .ok (.goto 170, 3) := by decide +kernel
theorem dX11_holdsHere_162 : decode cX11_holdsHere 162 = .ok (.iload_n 1, 1) := by decide +kernel
theorem dX11_holdsHere_163 : decode cX11_holdsHere 163 = .ok (.bipush 124, 2) := by decide +kernel
theorem dX11_holdsHere_165 : decode cX11_holdsHere 165 = .ok (.if_icmp .ne 64, 3) := by decide +kernel
theorem dX11_holdsHere_168 : decode cX11_holdsHere 168 = .ok (.aload_n 0, 1) := by decide +kernel
theorem dX11_holdsHere_169 : decode cX11_holdsHere 169 = .ok (.getfield 49, 3) := by decide +kernel
theorem dX11_holdsHere_172 : decode cX11_holdsHere 172 = .ok (.aload_n 0, 1) := by decide +kernel
theorem dX11_holdsHere_173 : decode cX11_holdsHere 173 = .ok (.getfield 178, 3) := by decide +kernel
theorem dX11_holdsHere_176 : decode cX11_holdsHere 176 = .ok (.aload_n 0, 1) := by decide +kernel
theorem dX11_holdsHere_177 : decode cX11_holdsHere 177 = .ok (.getfield 49, 3) := by decide +kernel
theorem dX11_holdsHere_180 : decode cX11_holdsHere 180 = .ok (.aload_n 0, 1) := by decide +kernel
theorem dX11_holdsHere_181 : decode cX11_holdsHere 181 = .ok (.getfield 178, 3) := by decide +kernel
theorem dX11_holdsHere_184 : decode cX11_holdsHere 184 = .ok (.baload, 1) := by decide +kernel
theorem dX11_holdsHere_185 : decode cX11_holdsHere 185 = .ok (.ifCond .ne 15, 3) := by decide +kernel
theorem dX11_holdsHere_188 : decode cX11_holdsHere 188 = .ok (.aload_n 0, 1) := by decide +kernel
theorem dX11_holdsHere_189 : decode cX11_holdsHere 189 = .ok (.getfield 52, 3) := by decide +kernel
theorem dX11_holdsHere_192 : decode cX11_holdsHere 192 = .ok (.aload_n 0, 1) := by decide +kernel
theorem dX11_holdsHere_193 : decode cX11_holdsHere 193 = .ok (.getfield 178, 3) := by decide +kernel
theorem dX11_holdsHere_196 : decode cX11_holdsHere 196 = .ok (.baload, 1) := by decide +kernel
theorem dX11_holdsHere_197 : decode cX11_holdsHere 197 = .ok (.ifCond .eq 7, 3) := by decide +kernel
theorem dX11_holdsHere_200 : decode cX11_holdsHere 200 = .ok (.iconst 1, 1) := by decide +kernel
theorem dX11_holdsHere_201 : decode cX11_holdsHere 201 = .ok (.goto 4, 3) := by decide +kernel
theorem dX11_holdsHere_204 : decode cX11_holdsHere 204 = .ok (.iconst 0, 1) := by decide +kernel
theorem dX11_holdsHere_205 : decode cX11_holdsHere 205 = .ok (.bastore, 1) := by decide +kernel
theorem dX11_holdsHere_206 : decode cX11_holdsHere 206 = .ok (.aload_n 0, 1) := by decide +kernel
theorem dX11_holdsHere_207 : decode cX11_holdsHere 207 = .ok (.getfield 52, 3) := by decide +kernel
theorem dX11_holdsHere_210 : decode cX11_holdsHere 210 = .ok (.aload_n 0, 1) := by decide +kernel
theorem dX11_holdsHere_211 : decode cX11_holdsHere 211 = .ok (.getfield 178, 3) := by decide +kernel
theorem dX11_holdsHere_214 : decode cX11_holdsHere 214 = .ok (.iconst 1, 1) := by decide +kernel
theorem dX11_holdsHere_215 : decode cX11_holdsHere 215 = .ok (.bastore, 1) := by decide +kernel
theorem dX11_holdsHere_216 : decode cX11_holdsHere 216 = .ok (.aload_n 0, 1) := by decide +kernel
theorem dX11_holdsHere_217 : decode cX11_holdsHere 217 = .ok (.dup, 1) := by decide +kernel
theorem dX11_holdsHere_218 : decode cX11_holdsHere 218 = .ok (.getfield 162, 3) := by decide +kernel
theorem dX11_holdsHere_221 : decode cX11_holdsHere 221 = .ok (.iconst 1, 1) := by decide +kernel
theorem dX11_holdsHere_222 : decode cX11_holdsHere 222 = .ok (.iadd, 1) := by decide +kernel
theorem dX11_holdsHere_223 : decode cX11_holdsHere 223 = .ok (.putfield 162, 3) := by decide +kernel
theorem dX11_holdsHere_226 : decode cX11_holdsHere 226 = .ok (.goto 103, 3) := by decide +kernel
theorem dX11_holdsHere_229 : decode cX11_holdsHere 229 = .ok (.iload_n 1, 1) := by decide +kernel
theorem dX11_holdsHere_230 : decode cX11_holdsHere 230 = .ok (.bipush 38, 2) := by decide +kernel
theorem dX11_holdsHere_232 : decode cX11_holdsHere 232 = .ok (.if_icmp .ne 16, 3) := by decide +kernel
theorem dX11_holdsHere_235 : decode cX11_holdsHere 235 = .ok (.aload_n 0, 1) := by decide +kernel
theorem dX11_holdsHere_236 : decode cX11_holdsHere 236 = .ok (.dup, 1) := by decide +kernel
theorem dX11_holdsHere_237 : decode cX11_holdsHere 237 = .ok (.getfield 162, 3) := by decide +kernel
theorem dX11_holdsHere_240 : decode cX11_holdsHere 240 = .ok (.iconst 1, 1) := by decide +kernel
theorem dX11_holdsHere_241 : decode cX11_holdsHere 241 = .ok (.iadd, 1) := by decide +kernel
theorem dX11_holdsHere_242 : decode cX11_holdsHere 242 = .ok (.putfield 162, 3) := by decide +kernel
theorem dX11_holdsHere_245 : decode cX11_holdsHere 245 = .ok (.goto 84, 3) := by decide +kernel
theorem dX11_holdsHere_248 : decode cX11_holdsHere 248 = .ok (.aload_n 0, 1) := by decide +kernel
theorem dX11_holdsHere_249 : decode cX11_holdsHere 249 = .ok (.invokevirtual 188, 3) := by decide +kernel
theorem dX11_holdsHere_252 : decode cX11_holdsHere 252 = .ok (.istore_n 2, 1) := by decide +kernel
theorem dX11_holdsHere_253 : decode cX11_holdsHere 253 = .ok (.aload_n 0, 1) := by decide +kernel
theorem dX11_holdsHere_254 : decode cX11_holdsHere 254 = .ok (.invokevirtual 174, 3) := by decide +kernel
theorem dX11_holdsHere_257 : decode cX11_holdsHere 257 = .ok (.istore_n 3, 1) := by decide +kernel
theorem dX11_holdsHere_258 : decode cX11_holdsHere 258 = .ok (.aload_n 0, 1) := by decide +kernel
theorem dX11_holdsHere_259 : decode cX11_holdsHere 259 = .ok (.dup, 1) := by decide +kernel
theorem dX11_holdsHere_260 : decode cX11_holdsHere 260 = .ok (.getfield 162, 3) := by decide +kernel
theorem dX11_holdsHere_263 : decode cX11_holdsHere 263 = .ok (.iconst 1, 1) := by decide +kernel
theorem dX11_holdsHere_264 : decode cX11_holdsHere 264 = .ok (.iadd, 1) := by decide +kernel
theorem dX11_holdsHere_265 : decode cX11_holdsHere 265 = .ok (.putfield 162, 3) := by decide +kernel
theorem dX11_holdsHere_268 : decode cX11_holdsHere 268 = .ok (.aload_n 0, 1) := by decide +kernel
theorem dX11_holdsHere_269 : decode cX11_holdsHere 269 = .ok (.invokevirtual 188, 3) := by decide +kernel
theorem dX11_holdsHere_272 : decode cX11_holdsHere 272 = .ok (.istore 4, 2) := by decide +kernel
theorem dX11_holdsHere_274 : decode cX11_holdsHere 274 = .ok (.aload_n 0, 1) := by decide +kernel
theorem dX11_holdsHere_275 : decode cX11_holdsHere 275 = .ok (.iload_n 3, 1) := by decide +kernel
theorem dX11_holdsHere_276 : decode cX11_holdsHere 276 = .ok (.bipush 60, 2) := by decide +kernel
theorem dX11_holdsHere_278 : decode cX11_holdsHere 278 = .ok (.if_icmp .ne 17, 3) := by decide +kernel
theorem dX11_holdsHere_281 : decode cX11_holdsHere 281 = .ok (.iload_n 2, 1) := by decide +kernel
theorem dX11_holdsHere_282 : decode cX11_holdsHere 282 = .ok (.iload 4, 2) := by decide +kernel
theorem dX11_holdsHere_284 : decode cX11_holdsHere 284 = .ok (.if_icmp .ge 7, 3) := by decide +kernel
theorem dX11_holdsHere_287 : decode cX11_holdsHere 287 = .ok (.iconst 1, 1) := by decide +kernel
theorem dX11_holdsHere_288 : decode cX11_holdsHere 288 = .ok (.goto 38, 3) := by decide +kernel
theorem dX11_holdsHere_291 : decode cX11_holdsHere 291 = .ok (.iconst 0, 1) := by decide +kernel
theorem dX11_holdsHere_292 : decode cX11_holdsHere 292 = .ok (.goto 34, 3) := by decide +kernel
theorem dX11_holdsHere_295 : decode cX11_holdsHere 295 = .ok (.iload_n 3, 1) := by decide +kernel
theorem dX11_holdsHere_296 : decode cX11_holdsHere 296 = .ok (.bipush 61, 2) := by decide +kernel
theorem dX11_holdsHere_298 : decode cX11_holdsHere 298 = .ok (.if_icmp .ne 17, 3) := by decide +kernel
theorem dX11_holdsHere_301 : decode cX11_holdsHere 301 = .ok (.iload_n 2, 1) := by decide +kernel
theorem dX11_holdsHere_302 : decode cX11_holdsHere 302 = .ok (.iload 4, 2) := by decide +kernel
theorem dX11_holdsHere_304 : decode cX11_holdsHere 304 = .ok (.if_icmp .ne 7, 3) := by decide +kernel
theorem dX11_holdsHere_307 : decode cX11_holdsHere 307 = .ok (.iconst 1, 1) := by decide +kernel
theorem dX11_holdsHere_308 : decode cX11_holdsHere 308 = .ok (.goto 18, 3) := by decide +kernel
theorem dX11_holdsHere_311 : decode cX11_holdsHere 311 = .ok (.iconst 0, 1) := by decide +kernel
theorem dX11_holdsHere_312 : decode cX11_holdsHere 312 = .ok (.goto 14, 3) := by decide +kernel
theorem dX11_holdsHere_315 : decode cX11_holdsHere 315 = .ok (.iload_n 2, 1) := by decide +kernel
theorem dX11_holdsHere_316 : decode cX11_holdsHere 316 = .ok (.iload 4, 2) := by decide +kernel
theorem dX11_holdsHere_318 : decode cX11_holdsHere 318 = .ok (.if_icmp .le 7, 3) := by decide +kernel
theorem dX11_holdsHere_321 : decode cX11_holdsHere 321 = .ok (.iconst 1, 1) := by decide +kernel
theorem dX11_holdsHere_322 : decode cX11_holdsHere 322 = .ok (.goto 4, 3) := by decide +kernel
theorem dX11_holdsHere_325 : decode cX11_holdsHere 325 = .ok (.iconst 0, 1) := by decide +kernel
theorem dX11_holdsHere_326 : decode cX11_holdsHere 326 = .ok (.invokevirtual 184, 3) := by decide +kernel
theorem dX11_holdsHere_329 : decode cX11_holdsHere 329 = .ok (.goto (-320), 3) := by decide +kernel
theorem dX11_holdsHere_332 : decode cX11_holdsHere 332 = .ok (.aload_n 0, 1) := by decide +kernel
theorem dX11_holdsHere_333 : decode cX11_holdsHere 333 = .ok (.getfield 49, 3) := by decide +kernel
theorem dX11_holdsHere_336 : decode cX11_holdsHere 336 = .ok (.iconst 0, 1) := by decide +kernel
theorem dX11_holdsHere_337 : decode cX11_holdsHere 337 = .ok (.baload, 1) := by decide +kernel
theorem dX11_holdsHere_338 : decode cX11_holdsHere 338 = .ok (.ifCond .ne 12, 3) := by decide +kernel
theorem dX11_holdsHere_341 : decode cX11_holdsHere 341 = .ok (.aload_n 0, 1) := by decide +kernel
theorem dX11_holdsHere_342 : decode cX11_holdsHere 342 = .ok (.getfield 52, 3) := by decide +kernel
theorem dX11_holdsHere_345 : decode cX11_holdsHere 345 = .ok (.iconst 0, 1) := by decide +kernel
theorem dX11_holdsHere_346 : decode cX11_holdsHere 346 = .ok (.baload, 1) := by decide +kernel
theorem dX11_holdsHere_347 : decode cX11_holdsHere 347 = .ok (.ifCond .eq 7, 3) := by decide +kernel
theorem dX11_holdsHere_350 : decode cX11_holdsHere 350 = .ok (.iconst 1, 1) := by decide +kernel
theorem dX11_holdsHere_351 : decode cX11_holdsHere 351 = .ok (.goto 4, 3) := by decide +kernel
theorem dX11_holdsHere_354 : decode cX11_holdsHere 354 = .ok (.iconst 0, 1) := by decide +kernel
theorem dX11_holdsHere_355 : decode cX11_holdsHere 355 = .ok (.ireturn, 1) := by decide +kernel
theorem dX11_holdsNow_0 : decode cX11_holdsNow 0 = .ok (.aload_n 0, 1) := by decide +kernel
theorem dX11_holdsNow_1 : decode cX11_holdsNow 1 = .ok (.iconst 0, 1) := by decide +kernel
theorem dX11_holdsNow_2 : decode cX11_holdsNow 2 = .ok (.putfield 168, 3) := by decide +kernel
theorem dX11_holdsNow_5 : decode cX11_holdsNow 5 = .ok (.aload_n 0, 1) := by decide +kernel
theorem dX11_holdsNow_6 : decode cX11_holdsNow 6 = .ok (.bipush 60, 2) := by decide +kernel
theorem dX11_holdsNow_8 : decode cX11_holdsNow 8 = .ok (.iload_n 1, 1) := by decide +kernel
theorem dX11_holdsNow_9 : decode cX11_holdsNow 9 = .ok (.imul, 1) := by decide +kernel
theorem dX11_holdsNow_10 : decode cX11_holdsNow 10 = .ok (.putfield 171, 3) := by decide +kernel
theorem dX11_holdsNow_13 : decode cX11_holdsNow 13 = .ok (.aload_n 0, 1) := by decide +kernel
theorem dX11_holdsNow_14 : decode cX11_holdsNow 14 = .ok (.iconst 0, 1) := by decide +kernel
theorem dX11_holdsNow_15 : decode cX11_holdsNow 15 = .ok (.putfield 162, 3) := by decide +kernel
theorem dX11_holdsNow_18 : decode cX11_holdsNow 18 = .ok (.aload_n 0, 1) := by decide +kernel
theorem dX11_holdsNow_19 : decode cX11_holdsNow 19 = .ok (.aload_n 0, 1) := by decide +kernel
theorem dX11_holdsNow_20 : decode cX11_holdsNow 20 = .ok (.getfield 26, 3) := by decide +kernel
theorem dX11_holdsNow_23 : decode cX11_holdsNow 23 = .ok (.iload_n 1, 1) := by decide +kernel
theorem dX11_holdsNow_24 : decode cX11_holdsNow 24 = .ok (.iaload, 1) := by decide +kernel
theorem dX11_holdsNow_25 : decode cX11_holdsNow 25 = .ok (.putfield 165, 3) := by decide +kernel
theorem dX11_holdsNow_28 : decode cX11_holdsNow 28 = .ok (.aload_n 0, 1) := by decide +kernel
theorem dX11_holdsNow_29 : decode cX11_holdsNow 29 = .ok (.invokevirtual 191, 3) := by decide +kernel
theorem dX11_holdsNow_32 : decode cX11_holdsNow 32 = .ok (.ireturn, 1) := by decide +kernel
theorem dX11_stepNow_0 : decode cX11_stepNow 0 = .ok (.aload_n 0, 1) := by decide +kernel
theorem dX11_stepNow_1 : decode cX11_stepNow 1 = .ok (.iconst 1, 1) := by decide +kernel
theorem dX11_stepNow_2 : decode cX11_stepNow 2 = .ok (.putfield 168, 3) := by decide +kernel
theorem dX11_stepNow_5 : decode cX11_stepNow 5 = .ok (.aload_n 0, 1) := by decide +kernel
theorem dX11_stepNow_6 : decode cX11_stepNow 6 = .ok (.bipush 60, 2) := by decide +kernel
theorem dX11_stepNow_8 : decode cX11_stepNow 8 = .ok (.iload_n 1, 1) := by decide +kernel
theorem dX11_stepNow_9 : decode cX11_stepNow 9 = .ok (.imul, 1) := by decide +kernel
theorem dX11_stepNow_10 : decode cX11_stepNow 10 = .ok (.putfield 171, 3) := by decide +kernel
theorem dX11_stepNow_13 : decode cX11_stepNow 13 = .ok (.aload_n 0, 1) := by decide +kernel
theorem dX11_stepNow_14 : decode cX11_stepNow 14 = .ok (.iconst 0, 1) := by decide +kernel
theorem dX11_stepNow_15 : decode cX11_stepNow 15 = .ok (.putfield 162, 3) := by decide +kernel
theorem dX11_stepNow_18 : decode cX11_stepNow 18 = .ok (.aload_n 0, 1) := by decide +kernel
theorem dX11_stepNow_19 : decode cX11_stepNow 19 = .ok (.aload_n 0, 1) := by decide +kernel
theorem dX11_stepNow_20 : decode cX11_stepNow 20 = .ok (.getfield 36, 3) := by decide +kernel
theorem dX11_stepNow_23 : decode cX11_stepNow 23 = .ok (.iload_n 1, 1) := by decide +kernel
theorem dX11_stepNow_24 : decode cX11_stepNow 24 = .ok (.iaload, 1) := by decide +kernel
theorem dX11_stepNow_25 : decode cX11_stepNow 25 = .ok (.putfield 165, 3) := by decide +kernel
theorem dX11_stepNow_28 : decode cX11_stepNow 28 = .ok (.aload_n 0, 1) := by decide +kernel
theorem dX11_stepNow_29 : decode cX11_stepNow 29 = .ok (.invokevirtual 191, 3) := by decide +kernel
theorem dX11_stepNow_32 : decode cX11_stepNow 32 = .ok (.ifCond .eq 61, 3) := by decide +kernel
theorem dX11_stepNow_35 : decode cX11_stepNow 35 = .ok (.aload_n 0, 1) := by decide +kernel
theorem dX11_stepNow_36 : decode cX11_stepNow 36 = .ok (.getfield 33, 3) := by decide +kernel
theorem dX11_stepNow_39 : decode cX11_stepNow 39 = .ok (.aload_n 0, 1) := by decide +kernel
theorem dX11_stepNow_40 : decode cX11_stepNow 40 = .ok (.getfield 171, 3) := by decide +kernel
theorem dX11_stepNow_43 : decode cX11_stepNow 43 = .ok (.aload_n 0, 1) := by decide +kernel
theorem dX11_stepNow_44 : decode cX11_stepNow 44 = .ok (.getfield 162, 3) := by decide +kernel
theorem dX11_stepNow_47 : decode cX11_stepNow 47 = .ok (.iadd, 1) := by decide +kernel
theorem dX11_stepNow_48 : decode cX11_stepNow 48 = .ok (.iconst 1, 1) := by decide +kernel
theorem dX11_stepNow_49 : decode cX11_stepNow 49 = .ok (.iadd, 1) := by decide +kernel
theorem dX11_stepNow_50 : decode cX11_stepNow 50 = .ok (.baload, 1) := by decide +kernel
theorem dX11_stepNow_51 : decode cX11_stepNow 51 = .ok (.bipush 97, 2) := by decide +kernel
theorem dX11_stepNow_53 : decode cX11_stepNow 53 = .ok (.isub, 1) := by decide +kernel
theorem dX11_stepNow_54 : decode cX11_stepNow 54 = .ok (.istore_n 2, 1) := by decide +kernel
theorem dX11_stepNow_55 : decode cX11_stepNow 55 = .ok (.aload_n 0, 1) := by decide +kernel
theorem dX11_stepNow_56 : decode cX11_stepNow 56 = .ok (.dup, 1) := by decide +kernel
theorem dX11_stepNow_57 : decode cX11_stepNow 57 = .ok (.getfield 162, 3) := by decide +kernel
theorem dX11_stepNow_60 : decode cX11_stepNow 60 = .ok (.iconst 3, 1) := by decide +kernel
theorem dX11_stepNow_61 : decode cX11_stepNow 61 = .ok (.iadd, 1) := by decide +kernel
theorem dX11_stepNow_62 : decode cX11_stepNow 62 = .ok (.putfield 162, 3) := by decide +kernel
theorem dX11_stepNow_65 : decode cX11_stepNow 65 = .ok (.aload_n 0, 1) := by decide +kernel
theorem dX11_stepNow_66 : decode cX11_stepNow 66 = .ok (.invokevirtual 188, 3) := by decide +kernel
theorem dX11_stepNow_69 : decode cX11_stepNow 69 = .ok (.istore_n 3, 1) := by decide +kernel
theorem dX11_stepNow_70 : decode cX11_stepNow 70 = .ok (.aload_n 0, 1) := by decide +kernel
theorem dX11_stepNow_71 : decode cX11_stepNow 71 = .ok (.getfield 46, 3) := by decide +kernel
theorem dX11_stepNow_74 : decode cX11_stepNow 74 = .ok (.iload_n 2, 1) := by decide +kernel
theorem dX11_stepNow_75 : decode cX11_stepNow 75 = .ok (.iload_n 3, 1) := by decide +kernel
theorem dX11_stepNow_76 : decode cX11_stepNow 76 = .ok (.invokestatic 97, 3) := by decide +kernel
theorem dX11_stepNow_79 : decode cX11_stepNow 79 = .ok (.ifCond .eq 7, 3) := by decide +kernel
theorem dX11_stepNow_82 : decode cX11_stepNow 82 = .ok (.iload_n 3, 1) := by decide +kernel
theorem dX11_stepNow_83 : decode cX11_stepNow 83 = .ok (.goto 9, 3) := by decide +kernel
theorem dX11_stepNow_86 : decode cX11_stepNow 86 = .ok (.aload_n 0, 1) := by decide +kernel
theorem dX11_stepNow_87 : decode cX11_stepNow 87 = .ok (.getfield 46, 3) := by decide +kernel
theorem dX11_stepNow_90 : decode cX11_stepNow 90 = .ok (.iload_n 2, 1) := by decide +kernel
theorem dX11_stepNow_91 : decode cX11_stepNow 91 = .ok (.iaload, 1) := by decide +kernel
theorem dX11_stepNow_92 : decode cX11_stepNow 92 = .ok (.iastore, 1) := by decide +kernel
theorem dX11_stepNow_93 : decode cX11_stepNow 93 = .ok (.return_, 1) := by decide +kernel
theorem dX11_healed_0 : decode cX11_healed 0 = .ok (.aload_n 0, 1) := by decide +kernel
theorem dX11_healed_1 : decode cX11_healed 1 = .ok (.lload_n 1, 1) := by decide +kernel
theorem dX11_healed_2 : decode cX11_healed 2 = .ok (.invokevirtual 195, 3) := by decide +kernel
theorem dX11_healed_5 : decode cX11_healed 5 = .ok (.iconst 0, 1) := by decide +kernel
theorem dX11_healed_6 : decode cX11_healed 6 = .ok (.istore_n 3, 1) := by decide +kernel
theorem dX11_healed_7 : decode cX11_healed 7 = .ok (.iload_n 3, 1) := by decide +kernel
theorem dX11_healed_8 : decode cX11_healed 8 = .ok (.aload_n 0, 1) := by decide +kernel
theorem dX11_healed_9 : decode cX11_healed 9 = .ok (.getfield 159, 3) := by decide +kernel
theorem dX11_healed_12 : decode cX11_healed 12 = .ok (.if_icmp .ge 14, 3) := by decide +kernel
theorem dX11_healed_15 : decode cX11_healed 15 = .ok (.aload_n 0, 1) := by decide +kernel
theorem dX11_healed_16 : decode cX11_healed 16 = .ok (.iload_n 3, 1) := by decide +kernel
theorem dX11_healed_17 : decode cX11_healed 17 = .ok (.invokevirtual 199, 3) := by decide +kernel
theorem dX11_healed_20 : decode cX11_healed 20 = .ok (.iinc 3 1, 3) := by decide +kernel
theorem dX11_healed_23 : decode cX11_healed 23 = .ok (.goto (-16), 3) := by decide +kernel
theorem dX11_healed_26 : decode cX11_healed 26 = .ok (.aload_n 0, 1) := by decide +kernel
theorem dX11_healed_27 : decode cX11_healed 27 = .ok (.invokevirtual 116, 3) := by decide +kernel
theorem dX11_healed_30 : decode cX11_healed 30 = .ok (.lreturn, 1) := by decide +kernel
theorem dX11_cutAt_0 : decode cX11_cutAt 0 = .ok (.aload_n 0, 1) := by decide +kernel
theorem dX11_cutAt_1 : decode cX11_cutAt 1 = .ok (.lload_n 1, 1) := by decide +kernel
theorem dX11_cutAt_2 : decode cX11_cutAt 2 = .ok (.invokevirtual 195, 3) := by decide +kernel
theorem dX11_cutAt_5 : decode cX11_cutAt 5 = .ok (.iconst 0, 1) := by decide +kernel
theorem dX11_cutAt_6 : decode cX11_cutAt 6 = .ok (.istore 4, 2) := by decide +kernel
theorem dX11_cutAt_8 : decode cX11_cutAt 8 = .ok (.iload 4, 2) := by decide +kernel
theorem dX11_cutAt_10 : decode cX11_cutAt 10 = .ok (.iload_n 3, 1) := by decide +kernel
theorem dX11_cutAt_11 : decode cX11_cutAt 11 = .ok (.if_icmp .ge 15, 3) := by decide +kernel
theorem dX11_cutAt_14 : decode cX11_cutAt 14 = .ok (.aload_n 0, 1) := by decide +kernel
theorem dX11_cutAt_15 : decode cX11_cutAt 15 = .ok (.iload 4, 2) := by decide +kernel
theorem dX11_cutAt_17 : decode cX11_cutAt 17 = .ok (.invokevirtual 199, 3) := by decide +kernel
theorem dX11_cutAt_20 : decode cX11_cutAt 20 = .ok (.iinc 4 1, 3) := by decide +kernel
theorem dX11_cutAt_23 : decode cX11_cutAt 23 = .ok (.goto (-15), 3) := by decide +kernel
theorem dX11_cutAt_26 : decode cX11_cutAt 26 = .ok (.aload_n 0, 1) := by decide +kernel
theorem dX11_cutAt_27 : decode cX11_cutAt 27 = .ok (.aload_n 0, 1) := by decide +kernel
theorem dX11_cutAt_28 : decode cX11_cutAt 28 = .ok (.invokevirtual 116, 3) := by decide +kernel
theorem dX11_cutAt_31 : decode cX11_cutAt 31 = .ok (.invokevirtual 202, 3) := by decide +kernel
theorem dX11_cutAt_34 : decode cX11_cutAt 34 = .ok (.lreturn, 1) := by decide +kernel
theorem dX11_isSteady_0 : decode cX11_isSteady 0 = .ok (.aload_n 0, 1) := by decide +kernel
theorem dX11_isSteady_1 : decode cX11_isSteady 1 = .ok (.lload_n 1, 1) := by decide +kernel
theorem dX11_isSteady_2 : decode cX11_isSteady 2 = .ok (.invokevirtual 202, 3) := by decide +kernel
theorem dX11_isSteady_5 : decode cX11_isSteady 5 = .ok (.lstore_n 3, 1) := by decide +kernel
theorem dX11_isSteady_6 : decode cX11_isSteady 6 = .ok (.iconst 1, 1) := by decide +kernel
theorem dX11_isSteady_7 : decode cX11_isSteady 7 = .ok (.istore 5, 2) := by decide +kernel
theorem dX11_isSteady_9 : decode cX11_isSteady 9 = .ok (.iconst 0, 1) := by decide +kernel
theorem dX11_isSteady_10 : decode cX11_isSteady 10 = .ok (.istore 6, 2) := by decide +kernel
theorem dX11_isSteady_12 : decode cX11_isSteady 12 = .ok (.iload 6, 2) := by decide +kernel
theorem dX11_isSteady_14 : decode cX11_isSteady 14 = .ok (.aload_n 0, 1) := by decide +kernel
theorem dX11_isSteady_15 : decode cX11_isSteady 15 = .ok (.getfield 159, 3) := by decide +kernel
theorem dX11_isSteady_18 : decode cX11_isSteady 18 = .ok (.if_icmp .gt 33, 3) := by decide +kernel
theorem dX11_isSteady_21 : decode cX11_isSteady 21 = .ok (.iload 5, 2) := by decide +kernel
theorem dX11_isSteady_23 : decode cX11_isSteady 23 = .ok (.ifCond .eq 28, 3) := by decide +kernel
theorem dX11_isSteady_26 : decode cX11_isSteady 26 = .ok (.aload_n 0, 1) := by decide +kernel
theorem dX11_isSteady_27 : decode cX11_isSteady 27 = .ok (.lload_n 1, 1) := by decide +kernel
theorem dX11_isSteady_28 : decode cX11_isSteady 28 = .ok (.iload 6, 2) := by decide +kernel
theorem dX11_isSteady_30 : decode cX11_isSteady 30 = .ok (.invokevirtual 206, 3) := by decide +kernel
theorem dX11_isSteady_33 : decode cX11_isSteady 33 = .ok (.lload_n 3, 1) := by decide +kernel
theorem dX11_isSteady_34 : decode cX11_isSteady 34 = .ok (.lcmp, 1) := by decide +kernel
theorem dX11_isSteady_35 : decode cX11_isSteady 35 = .ok (.ifCond .ne 7, 3) := by decide +kernel
theorem dX11_isSteady_38 : decode cX11_isSteady 38 = .ok (.iconst 1, 1) := by decide +kernel
theorem dX11_isSteady_39 : decode cX11_isSteady 39 = .ok (.goto 4, 3) := by decide +kernel
theorem dX11_isSteady_42 : decode cX11_isSteady 42 = .ok (.iconst 0, 1) := by decide +kernel
theorem dX11_isSteady_43 : decode cX11_isSteady 43 = .ok (.istore 5, 2) := by decide +kernel
theorem dX11_isSteady_45 : decode cX11_isSteady 45 = .ok (.iinc 6 1, 3) := by decide +kernel
theorem dX11_isSteady_48 : decode cX11_isSteady 48 = .ok (.goto (-36), 3) := by decide +kernel
theorem dX11_isSteady_51 : decode cX11_isSteady 51 = .ok (.iload 5, 2) := by decide +kernel
theorem dX11_isSteady_53 : decode cX11_isSteady 53 = .ok (.ireturn, 1) := by decide +kernel
theorem dX11_isPlate_0 : decode cX11_isPlate 0 = .ok (.lload_n 0, 1) := by decide +kernel
theorem dX11_isPlate_1 : decode cX11_isPlate 1 = .ok (.lconst 0, 1) := by decide +kernel
theorem dX11_isPlate_2 : decode cX11_isPlate 2 = .ok (.lcmp, 1) := by decide +kernel
theorem dX11_isPlate_3 : decode cX11_isPlate 3 = .ok (.ifCond .lt 15, 3) := by decide +kernel
theorem dX11_isPlate_6 : decode cX11_isPlate 6 = .ok (.lload_n 0, 1) := by decide +kernel
theorem dX11_isPlate_7 : decode cX11_isPlate 7 = .ok (.ldc2_w 210, 3) := by decide +kernel
theorem dX11_isPlate_10 : decode cX11_isPlate 10 = .ok (.lcmp, 1) := by decide +kernel
theorem dX11_isPlate_11 : decode cX11_isPlate 11 = .ok (.ifCond .gt 7, 3) := by decide +kernel
theorem dX11_isPlate_14 : decode cX11_isPlate 14 = .ok (.iconst 1, 1) := by decide +kernel
theorem dX11_isPlate_15 : decode cX11_isPlate 15 = .ok (.goto 4, 3) := by decide +kernel
theorem dX11_isPlate_18 : decode cX11_isPlate 18 = .ok (.iconst 0, 1) := by decide +kernel
theorem dX11_isPlate_19 : decode cX11_isPlate 19 = .ok (.ireturn, 1) := by decide +kernel
theorem dX11_holds_0 : decode cX11_holds 0 = .ok (.iload_n 1, 1) := by decide +kernel
theorem dX11_holds_1 : decode cX11_holds 1 = .ok (.iconst 0, 1) := by decide +kernel
theorem dX11_holds_2 : decode cX11_holds 2 = .ok (.aload_n 0, 1) := by decide +kernel
theorem dX11_holds_3 : decode cX11_holds 3 = .ok (.getfield 111, 3) := by decide +kernel
theorem dX11_holds_6 : decode cX11_holds 6 = .ok (.iconst 1, 1) := by decide +kernel
theorem dX11_holds_7 : decode cX11_holds 7 = .ok (.isub, 1) := by decide +kernel
theorem dX11_holds_8 : decode cX11_holds 8 = .ok (.invokestatic 89, 3) := by decide +kernel
theorem dX11_holds_11 : decode cX11_holds 11 = .ok (.ifCond .ne 6, 3) := by decide +kernel
theorem dX11_holds_14 : decode cX11_holds 14 = .ok (.bipush (-101), 2) := by decide +kernel
theorem dX11_holds_16 : decode cX11_holds 16 = .ok (.ireturn, 1) := by decide +kernel
theorem dX11_holds_17 : decode cX11_holds 17 = .ok (.lload_n 2, 1) := by decide +kernel
theorem dX11_holds_18 : decode cX11_holds 18 = .ok (.invokestatic 212, 3) := by decide +kernel
theorem dX11_holds_21 : decode cX11_holds 21 = .ok (.ifCond .ne 6, 3) := by decide +kernel
theorem dX11_holds_24 : decode cX11_holds 24 = .ok (.bipush (-102), 2) := by decide +kernel
theorem dX11_holds_26 : decode cX11_holds 26 = .ok (.ireturn, 1) := by decide +kernel
theorem dX11_holds_27 : decode cX11_holds 27 = .ok (.aload_n 0, 1) := by decide +kernel
theorem dX11_holds_28 : decode cX11_holds 28 = .ok (.lload_n 2, 1) := by decide +kernel
theorem dX11_holds_29 : decode cX11_holds 29 = .ok (.invokevirtual 195, 3) := by decide +kernel
theorem dX11_holds_32 : decode cX11_holds 32 = .ok (.aload_n 0, 1) := by decide +kernel
theorem dX11_holds_33 : decode cX11_holds 33 = .ok (.iload_n 1, 1) := by decide +kernel
theorem dX11_holds_34 : decode cX11_holds 34 = .ok (.invokevirtual 216, 3) := by decide +kernel
theorem dX11_holds_37 : decode cX11_holds 37 = .ok (.ifCond .eq 7, 3) := by decide +kernel
theorem dX11_holds_40 : decode cX11_holds 40 = .ok (.iconst 1, 1) := by decide +kernel
theorem dX11_holds_41 : decode cX11_holds 41 = .ok (.goto 4, 3) := by decide +kernel
theorem dX11_holds_44 : decode cX11_holds 44 = .ok (.iconst 0, 1) := by decide +kernel
theorem dX11_holds_45 : decode cX11_holds 45 = .ok (.ireturn, 1) := by decide +kernel
theorem dX11_heal_0 : decode cX11_heal 0 = .ok (.lload_n 1, 1) := by decide +kernel
theorem dX11_heal_1 : decode cX11_heal 1 = .ok (.invokestatic 212, 3) := by decide +kernel
theorem dX11_heal_4 : decode cX11_heal 4 = .ok (.ifCond .eq 11, 3) := by decide +kernel
theorem dX11_heal_7 : decode cX11_heal 7 = .ok (.aload_n 0, 1) := by decide +kernel
theorem dX11_heal_8 : decode cX11_heal 8 = .ok (.lload_n 1, 1) := by decide +kernel
theorem dX11_heal_9 : decode cX11_heal 9 = .ok (.invokevirtual 202, 3) := by decide +kernel
theorem dX11_heal_12 : decode cX11_heal 12 = .ok (.goto 6, 3) := by decide +kernel
theorem dX11_heal_15 : decode cX11_heal 15 = .ok (.ldc2_w 219, 3) := by decide +kernel
theorem dX11_heal_18 : decode cX11_heal 18 = .ok (.lreturn, 1) := by decide +kernel
theorem dX11_cut_0 : decode cX11_cut 0 = .ok (.lload_n 1, 1) := by decide +kernel
theorem dX11_cut_1 : decode cX11_cut 1 = .ok (.invokestatic 212, 3) := by decide +kernel
theorem dX11_cut_4 : decode cX11_cut 4 = .ok (.ifCond .ne 7, 3) := by decide +kernel
theorem dX11_cut_7 : decode cX11_cut 7 = .ok (.ldc2_w 219, 3) := by decide +kernel
theorem dX11_cut_10 : decode cX11_cut 10 = .ok (.lreturn, 1) := by decide +kernel
theorem dX11_cut_11 : decode cX11_cut 11 = .ok (.iload_n 3, 1) := by decide +kernel
theorem dX11_cut_12 : decode cX11_cut 12 = .ok (.iconst 0, 1) := by decide +kernel

theorem dX12_init_0 : decode cX12_init 0 = .ok (.aload_n 0, 1) := by decide +kernel
theorem dX12_init_1 : decode cX12_init 1 = .ok (.invokespecial 1, 3) := by decide +kernel
theorem dX12_init_4 : decode cX12_init 4 = .ok (.aload_n 0, 1) := by decide +kernel
theorem dX12_init_5 : decode cX12_init 5 = .ok (.sipush 149, 3) := by decide +kernel
theorem dX12_init_8 : decode cX12_init 8 = .ok (.newarray .int, 2) := by decide +kernel
theorem dX12_init_10 : decode cX12_init 10 = .ok (.putfield 7, 3) := by decide +kernel
theorem dX12_init_13 : decode cX12_init 13 = .ok (.aload_n 0, 1) := by decide +kernel
theorem dX12_init_14 : decode cX12_init 14 = .ok (.sipush 298, 3) := by decide +kernel
theorem dX12_init_17 : decode cX12_init 17 = .ok (.newarray .int, 2) := by decide +kernel
theorem dX12_init_19 : decode cX12_init 19 = .ok (.putfield 13, 3) := by decide +kernel
theorem dX12_init_22 : decode cX12_init 22 = .ok (.aload_n 0, 1) := by decide +kernel
theorem dX12_init_23 : decode cX12_init 23 = .ok (.iconst 2, 1) := by decide +kernel
theorem dX12_init_24 : decode cX12_init 24 = .ok (.newarray .boolean, 2) := by decide +kernel
theorem dX12_init_26 : decode cX12_init 26 = .ok (.putfield 16, 3) := by decide +kernel
theorem dX12_init_29 : decode cX12_init 29 = .ok (.aload_n 0, 1) := by decide +kernel
theorem dX12_init_30 : decode cX12_init 30 = .ok (.iconst 3, 1) := by decide +kernel
theorem dX12_init_31 : decode cX12_init 31 = .ok (.newarray .int, 2) := by decide +kernel
theorem dX12_init_33 : decode cX12_init 33 = .ok (.putfield 20, 3) := by decide +kernel
theorem dX12_init_36 : decode cX12_init 36 = .ok (.aload_n 0, 1) := by decide +kernel
theorem dX12_init_37 : decode cX12_init 37 = .ok (.sipush 301, 3) := by decide +kernel
theorem dX12_init_40 : decode cX12_init 40 = .ok (.newarray .int, 2) := by decide +kernel
theorem dX12_init_42 : decode cX12_init 42 = .ok (.putfield 23, 3) := by decide +kernel
theorem dX12_init_45 : decode cX12_init 45 = .ok (.aload_n 0, 1) := by decide +kernel
theorem dX12_init_46 : decode cX12_init 46 = .ok (.lconst 1, 1) := by decide +kernel
theorem dX12_init_47 : decode cX12_init 47 = .ok (.putfield 26, 3) := by decide +kernel
theorem dX12_init_50 : decode cX12_init 50 = .ok (.aload_n 0, 1) := by decide +kernel
theorem dX12_init_51 : decode cX12_init 51 = .ok (.bipush 8, 2) := by decide +kernel
theorem dX12_init_53 : decode cX12_init 53 = .ok (.newarray .int, 2) := by decide +kernel
theorem dX12_init_55 : decode cX12_init 55 = .ok (.putfield 30, 3) := by decide +kernel
theorem dX12_init_58 : decode cX12_init 58 = .ok (.aload_n 0, 1) := by decide +kernel
theorem dX12_init_59 : decode cX12_init 59 = .ok (.bipush 9, 2) := by decide +kernel
theorem dX12_init_61 : decode cX12_init 61 = .ok (.newarray .int, 2) := by decide +kernel
theorem dX12_init_63 : decode cX12_init 63 = .ok (.putfield 33, 3) := by decide +kernel
theorem dX12_init_66 : decode cX12_init 66 = .ok (.aload_n 0, 1) := by decide +kernel
theorem dX12_init_67 : decode cX12_init 67 = .ok (.bipush 8, 2) := by decide +kernel
theorem dX12_init_69 : decode cX12_init 69 = .ok (.newarray .int, 2) := by decide +kernel
theorem dX12_init_71 : decode cX12_init 71 = .ok (.putfield 36, 3) := by decide +kernel
theorem dX12_init_74 : decode cX12_init 74 = .ok (.aload_n 0, 1) := by decide +kernel
theorem dX12_init_75 : decode cX12_init 75 = .ok (.sipush 256, 3) := by decide +kernel
theorem dX12_init_78 : decode cX12_init 78 = .ok (.newarray .int, 2) := by decide +kernel
theorem dX12_init_80 : decode cX12_init 80 = .ok (.putfield 39, 3) := by decide +kernel
theorem dX12_init_83 : decode cX12_init 83 = .ok (.aload_n 0, 1) := by decide +kernel
theorem dX12_init_84 : decode cX12_init 84 = .ok (.bipush 21, 2) := by decide +kernel
theorem dX12_init_86 : decode cX12_init 86 = .ok (.newarray .int, 2) := by decide +kernel
theorem dX12_init_88 : decode cX12_init 88 = .ok (.putfield 42, 3) := by decide +kernel
theorem dX12_init_91 : decode cX12_init 91 = .ok (.aload_n 0, 1) := by decide +kernel
theorem dX12_init_92 : decode cX12_init 92 = .ok (.sipush 301, 3) := by decide +kernel
theorem dX12_init_95 : decode cX12_init 95 = .ok (.newarray .boolean, 2) := by decide +kernel
theorem dX12_init_97 : decode cX12_init 97 = .ok (.putfield 45, 3) := by decide +kernel
theorem dX12_init_100 : decode cX12_init 100 = .ok (.aload_n 0, 1) := by decide +kernel
theorem dX12_init_101 : decode cX12_init 101 = .ok (.sipush 150, 3) := by decide +kernel
theorem dX12_init_104 : decode cX12_init 104 = .ok (.newarray .int, 2) := by decide +kernel
theorem dX12_init_106 : decode cX12_init 106 = .ok (.putfield 48, 3) := by decide +kernel
theorem dX12_init_109 : decode cX12_init 109 = .ok (.aload_n 0, 1) := by decide +kernel
theorem dX12_init_110 : decode cX12_init 110 = .ok (.bipush 69, 2) := by decide +kernel
theorem dX12_init_112 : decode cX12_init 112 = .ok (.newarray .int, 2) := by decide +kernel
theorem dX12_init_114 : decode cX12_init 114 = .ok (.putfield 51, 3) := by decide +kernel
theorem dX12_init_117 : decode cX12_init 117 = .ok (.aload_n 0, 1) := by decide +kernel
theorem dX12_init_118 : decode cX12_init 118 = .ok (.iconst 2, 1) := by decide +kernel
theorem dX12_init_119 : decode cX12_init 119 = .ok (.newarray .int, 2) := by decide +kernel
theorem dX12_init_121 : decode cX12_init 121 = .ok (.putfield 54, 3) := by decide +kernel
theorem dX12_init_124 : decode cX12_init 124 = .ok (.iconst 1, 1) := by decide +kernel
theorem dX12_init_125 : decode cX12_init 125 = .ok (.istore_n 1, 1) := by decide +kernel
theorem dX12_init_126 : decode cX12_init 126 = .ok (.iload_n 1, 1) := by decide +kernel
theorem dX12_init_127 : decode cX12_init 127 = .ok (.sipush 300, 3) := by decide +kernel
theorem dX12_init_130 : decode cX12_init 130 = .ok (.if_icmp .gt 37, 3) := by decide +kernel
theorem dX12_init_133 : decode cX12_init 133 = .ok (.iconst 2, 1) := by decide +kernel
theorem dX12_init_134 : decode cX12_init 134 = .ok (.iload_n 1, 1) := by decide +kernel
theorem dX12_init_135 : decode cX12_init 135 = .ok (.imul, 1) := by decide +kernel
theorem dX12_init_136 : decode cX12_init 136 = .ok (.istore_n 2, 1) := by decide +kernel
theorem dX12_init_137 : decode cX12_init 137 = .ok (.iload_n 2, 1) := by decide +kernel
theorem dX12_init_138 : decode cX12_init 138 = .ok (.sipush 300, 3) := by decide +kernel
theorem dX12_init_141 : decode cX12_init 141 = .ok (.if_icmp .gt 20, 3) := by decide +kernel
theorem dX12_init_144 : decode cX12_init 144 = .ok (.aload_n 0, 1) := by decide +kernel
theorem dX12_init_145 : decode cX12_init 145 = .ok (.getfield 23, 3) := by decide +kernel
theorem dX12_init_148 : decode cX12_init 148 = .ok (.iload_n 2, 1) := by decide +kernel
theorem dX12_init_149 : decode cX12_init 149 = .ok (.dup2, 1) := by decide +kernel
theorem dX12_init_150 : decode cX12_init 150 = .ok (.iaload, 1) := by decide +kernel
theorem dX12_init_151 : decode cX12_init 151 = .ok (.iload_n 1, 1) := by decide +kernel
theorem dX12_init_152 : decode cX12_init 152 = .ok (.iadd, 1) := by decide +kernel
theorem dX12_init_153 : decode cX12_init 153 = .ok (.iastore, 1) := by decide +kernel
theorem dX12_init_154 : decode cX12_init 154 = .ok (.iload_n 2, 1) := by decide +kernel
theorem dX12_init_155 : decode cX12_init 155 = .ok (.iload_n 1, 1) := by decide +kernel
theorem dX12_init_156 : decode cX12_init 156 = .ok (.iadd, 1) := by decide +kernel
theorem dX12_init_157 : decode cX12_init 157 = .ok (.istore_n 2, 1) := by decide +kernel
theorem dX12_init_158 : decode cX12_init 158 = .ok (.goto (-21), 3) := by decide +kernel
theorem dX12_init_161 : decode cX12_init 161 = .ok (.iinc 1 1, 3) := by decide +kernel
theorem dX12_init_164 : decode cX12_init 164 = .ok (.goto (-38), 3) := by decide +kernel
theorem dX12_init_167 : decode cX12_init 167 = .ok (.return_, 1) := by decide +kernel
theorem dX12_in_0 : decode cX12_in 0 = .ok (.lload_n 0, 1) := by decide +kernel
theorem dX12_in_1 : decode cX12_in 1 = .ok (.lload_n 2, 1) := by decide +kernel
theorem dX12_in_2 : decode cX12_in 2 = .ok (.lcmp, 1) := by decide +kernel
theorem dX12_in_3 : decode cX12_in 3 = .ok (.ifCond .lt 14, 3) := by decide +kernel
theorem dX12_in_6 : decode cX12_in 6 = .ok (.lload_n 0, 1) := by decide +kernel
theorem dX12_in_7 : decode cX12_in 7 = .ok (.lload 4, 2) := by decide +kernel
theorem dX12_in_9 : decode cX12_in 9 = .ok (.lcmp, 1) := by decide +kernel
theorem dX12_in_10 : decode cX12_in 10 = .ok (.ifCond .gt 7, 3) := by decide +kernel
theorem dX12_in_13 : decode cX12_in 13 = .ok (.iconst 1, 1) := by decide +kernel
theorem dX12_in_14 : decode cX12_in 14 = .ok (.goto 4, 3) := by decide +kernel
theorem dX12_in_17 : decode cX12_in 17 = .ok (.iconst 0, 1) := by decide +kernel
theorem dX12_in_18 : decode cX12_in 18 = .ok (.ireturn, 1) := by decide +kernel
theorem dX12_bad_0 : decode cX12_bad 0 = .ok (.aload_n 0, 1) := by decide +kernel
theorem dX12_bad_1 : decode cX12_bad 1 = .ok (.getfield 20, 3) := by decide +kernel
theorem dX12_bad_4 : decode cX12_bad 4 = .ok (.iconst 0, 1) := by decide +kernel
theorem dX12_bad_5 : decode cX12_bad 5 = .ok (.dup2, 1) := by decide +kernel
theorem dX12_bad_6 : decode cX12_bad 6 = .ok (.iaload, 1) := by decide +kernel
theorem dX12_bad_7 : decode cX12_bad 7 = .ok (.iconst 1, 1) := by decide +kernel
theorem dX12_bad_8 : decode cX12_bad 8 = .ok (.iadd, 1) := by decide +kernel
theorem dX12_bad_9 : decode cX12_bad 9 = .ok (.iastore, 1) := by decide +kernel
theorem dX12_bad_10 : decode cX12_bad 10 = .ok (.iload_n 1, 1) := by decide +kernel
theorem dX12_bad_11 : decode cX12_bad 11 = .ok (.ireturn, 1) := by decide +kernel
theorem dX12_no_0 : decode cX12_no 0 = .ok (.aload_n 0, 1) := by decide +kernel
theorem dX12_no_1 : decode cX12_no 1 = .ok (.getfield 20, 3) := by decide +kernel
theorem dX12_no_4 : decode cX12_no 4 = .ok (.iconst 1, 1) := by decide +kernel
theorem dX12_no_5 : decode cX12_no 5 = .ok (.dup2, 1) := by decide +kernel
theorem dX12_no_6 : decode cX12_no 6 = .ok (.iaload, 1) := by decide +kernel
theorem dX12_no_7 : decode cX12_no 7 = .ok (.iconst 1, 1) := by decide +kernel
theorem dX12_no_8 : decode cX12_no 8 = .ok (.iadd, 1) := by decide +kernel
theorem dX12_no_9 : decode cX12_no 9 = .ok (.iastore, 1) := by decide +kernel
theorem dX12_no_10 : decode cX12_no 10 = .ok (.bipush (-3), 2) := by decide +kernel
theorem dX12_no_12 : decode cX12_no 12 = .ok (.ireturn, 1) := by decide +kernel
theorem dX12_full_0 : decode cX12_full 0 = .ok (.aload_n 0, 1) := by decide +kernel
theorem dX12_full_1 : decode cX12_full 1 = .ok (.getfield 20, 3) := by decide +kernel
theorem dX12_full_4 : decode cX12_full 4 = .ok (.iconst 2, 1) := by decide +kernel
theorem dX12_full_5 : decode cX12_full 5 = .ok (.dup2, 1) := by decide +kernel
theorem dX12_full_6 : decode cX12_full 6 = .ok (.iaload, 1) := by decide +kernel
theorem dX12_full_7 : decode cX12_full 7 = .ok (.iconst 1, 1) := by decide +kernel
theorem dX12_full_8 : decode cX12_full 8 = .ok (.iadd, 1) := by decide +kernel
theorem dX12_full_9 : decode cX12_full 9 = .ok (.iastore, 1) := by decide +kernel
theorem dX12_full_10 : decode cX12_full 10 = .ok (.bipush (-4), 2) := by decide +kernel
theorem dX12_full_12 : decode cX12_full 12 = .ok (.ireturn, 1) := by decide +kernel
theorem dX12_bits_0 : decode cX12_bits 0 = .ok (.iconst 0, 1) := by decide +kernel
theorem dX12_bits_1 : decode cX12_bits 1 = .ok (.istore_n 1, 1) := by decide +kernel
theorem dX12_bits_2 : decode cX12_bits 2 = .ok (.iload_n 0, 1) := by decide +kernel
theorem dX12_bits_3 : decode cX12_bits 3 = .ok (.istore_n 2, 1) := by decide +kernel
theorem dX12_bits_4 : decode cX12_bits 4 = .ok (.iload_n 2, 1) := by decide +kernel
theorem dX12_bits_5 : decode cX12_bits 5 = .ok (.ifCond .le 16, 3) := by decide +kernel
theorem dX12_bits_8 : decode cX12_bits 8 = .ok (.iload_n 1, 1) := by decide +kernel
theorem dX12_bits_9 : decode cX12_bits 9 = .ok (.iload_n 2, 1) := by decide +kernel
theorem dX12_bits_10 : decode cX12_bits 10 = .ok (.iconst 1, 1) := by decide +kernel
theorem dX12_bits_11 : decode cX12_bits 11 = .ok (.iand, 1) := by decide +kernel
theorem dX12_bits_12 : decode cX12_bits 12 = .ok (.iadd, 1) := by decide +kernel
theorem dX12_bits_13 : decode cX12_bits 13 = .ok (.istore_n 1, 1) := by decide +kernel
theorem dX12_bits_14 : decode cX12_bits 14 = .ok (.iload_n 2, 1) := by decide +kernel
theorem dX12_bits_15 : decode cX12_bits 15 = .ok (.iconst 1, 1) := by decide +kernel
theorem dX12_bits_16 : decode cX12_bits 16 = .ok (.ishr, 1) := by decide +kernel
theorem dX12_bits_17 : decode cX12_bits 17 = .ok (.istore_n 2, 1) := by decide +kernel
theorem dX12_bits_18 : decode cX12_bits 18 = .ok (.goto (-14), 3) := by decide +kernel
theorem dX12_bits_21 : decode cX12_bits 21 = .ok (.iload_n 1, 1) := by decide +kernel
theorem dX12_bits_22 : decode cX12_bits 22 = .ok (.ireturn, 1) := by decide +kernel
theorem dX12_isHouse_0 : decode cX12_isHouse 0 = .ok (.iload_n 0, 1) := by decide +kernel
theorem dX12_isHouse_1 : decode cX12_isHouse 1 = .ok (.i2l, 1) := by decide +kernel
theorem dX12_isHouse_2 : decode cX12_isHouse 2 = .ok (.lconst 0, 1) := by decide +kernel
theorem dX12_isHouse_3 : decode cX12_isHouse 3 = .ok (.ldc2_w 57, 3) := by decide +kernel
theorem dX12_isHouse_6 : decode cX12_isHouse 6 = .ok (.invokestatic 59, 3) := by decide +kernel
theorem dX12_isHouse_9 : decode cX12_isHouse 9 = .ok (.ireturn, 1) := by decide +kernel
theorem dX12_isNumber_0 : decode cX12_isNumber 0 = .ok (.iload_n 0, 1) := by decide +kernel
theorem dX12_isNumber_1 : decode cX12_isNumber 1 = .ok (.i2l, 1) := by decide +kernel
theorem dX12_isNumber_2 : decode cX12_isNumber 2 = .ok (.lconst 1, 1) := by decide +kernel
theorem dX12_isNumber_3 : decode cX12_isNumber 3 = .ok (.ldc2_w 63, 3) := by decide +kernel
theorem dX12_isNumber_6 : decode cX12_isNumber 6 = .ok (.invokestatic 59, 3) := by decide +kernel
theorem dX12_isNumber_9 : decode cX12_isNumber 9 = .ok (.ireturn, 1) := by decide +kernel
theorem dX12_isLaw_0 : decode cX12_isLaw 0 = .ok (.iload_n 0, 1) := by decide +kernel
theorem dX12_isLaw_1 : decode cX12_isLaw 1 = .ok (.i2l, 1) := by decide +kernel
theorem dX12_isLaw_2 : decode cX12_isLaw 2 = .ok (.lconst 0, 1) := by decide +kernel
theorem dX12_isLaw_3 : decode cX12_isLaw 3 = .ok (.ldc2_w 65, 3) := by decide +kernel
theorem dX12_isLaw_6 : decode cX12_isLaw 6 = .ok (.invokestatic 59, 3) := by decide +kernel
theorem dX12_isLaw_9 : decode cX12_isLaw 9 = .ok (.ifCond .eq 19, 3) := by decide +kernel
theorem dX12_isLaw_12 : decode cX12_isLaw 12 = .ok (.iload_n 1, 1) := by decide +kernel
theorem dX12_isLaw_13 : decode cX12_isLaw 13 = .ok (.i2l, 1) := by decide +kernel
theorem dX12_isLaw_14 : decode cX12_isLaw 14 = .ok (.lconst 0, 1) := by decide +kernel
theorem dX12_isLaw_15 : decode cX12_isLaw 15 = .ok (.ldc2_w 67, 3) := by decide +kernel
theorem dX12_isLaw_18 : decode cX12_isLaw 18 = .ok (.invokestatic 59, 3) := by decide +kernel
theorem dX12_isLaw_21 : decode cX12_isLaw 21 = .ok (.ifCond .eq 7, 3) := by decide +kernel
theorem dX12_isLaw_24 : decode cX12_isLaw 24 = .ok (.iconst 1, 1) := by decide +kernel
theorem dX12_isLaw_25 : decode cX12_isLaw 25 = .ok (.goto 4, 3) := by decide +kernel
theorem dX12_isLaw_28 : decode cX12_isLaw 28 = .ok (.iconst 0, 1) := by decide +kernel
theorem dX12_isLaw_29 : decode cX12_isLaw 29 = .ok (.ireturn, 1) := by decide +kernel
theorem dX12_divides_0 : decode cX12_divides 0 = .ok (.iload_n 1, 1) := by decide +kernel
theorem dX12_divides_1 : decode cX12_divides 1 = .ok (.iload_n 0, 1) := by decide +kernel
theorem dX12_divides_2 : decode cX12_divides 2 = .ok (.irem, 1) := by decide +kernel
theorem dX12_divides_3 : decode cX12_divides 3 = .ok (.ifCond .ne 7, 3) := by decide +kernel
theorem dX12_divides_6 : decode cX12_divides 6 = .ok (.iconst 1, 1) := by decide +kernel
theorem dX12_divides_7 : decode cX12_divides 7 = .ok (.goto 4, 3) := by decide +kernel
theorem dX12_divides_10 : decode cX12_divides 10 = .ok (.iconst 0, 1) := by decide +kernel
theorem dX12_divides_11 : decode cX12_divides 11 = .ok (.ireturn, 1) := by decide +kernel
theorem dX12_isSquare_0 : decode cX12_isSquare 0 = .ok (.iconst 1, 1) := by decide +kernel
theorem dX12_isSquare_1 : decode cX12_isSquare 1 = .ok (.istore_n 1, 1) := by decide +kernel
theorem dX12_isSquare_2 : decode cX12_isSquare 2 = .ok (.iload_n 1, 1) := by decide +kernel
theorem dX12_isSquare_3 : decode cX12_isSquare 3 = .ok (.iload_n 1, 1) := by decide +kernel
theorem dX12_isSquare_4 : decode cX12_isSquare 4 = .ok (.imul, 1) := by decide +kernel
theorem dX12_isSquare_5 : decode cX12_isSquare 5 = .ok (.iload_n 0, 1) := by decide +kernel
theorem dX12_isSquare_6 : decode cX12_isSquare 6 = .ok (.if_icmp .ge 9, 3) := by decide +kernel
theorem dX12_isSquare_9 : decode cX12_isSquare 9 = .ok (.iinc 1 1, 3) := by decide +kernel
theorem dX12_isSquare_12 : decode cX12_isSquare 12 = .ok (.goto (-10), 3) := by decide +kernel
theorem dX12_isSquare_15 : decode cX12_isSquare 15 = .ok (.iload_n 1, 1) := by decide +kernel
theorem dX12_isSquare_16 : decode cX12_isSquare 16 = .ok (.iload_n 1, 1) := by decide +kernel
theorem dX12_isSquare_17 : decode cX12_isSquare 17 = .ok (.imul, 1) := by decide +kernel
theorem dX12_isSquare_18 : decode cX12_isSquare 18 = .ok (.iload_n 0, 1) := by decide +kernel
theorem dX12_isSquare_19 : decode cX12_isSquare 19 = .ok (.if_icmp .ne 7, 3) := by decide +kernel
theorem dX12_isSquare_22 : decode cX12_isSquare 22 = .ok (.iconst 1, 1) := by decide +kernel
theorem dX12_isSquare_23 : decode cX12_isSquare 23 = .ok (.goto 4, 3) := by decide +kernel
theorem dX12_isSquare_26 : decode cX12_isSquare 26 = .ok (.iconst 0, 1) := by decide +kernel
theorem dX12_isSquare_27 : decode cX12_isSquare 27 = .ok (.ireturn, 1) := by decide +kernel
theorem dX12_isPrime_0 : decode cX12_isPrime 0 = .ok (.aload_n 0, 1) := by decide +kernel
theorem dX12_isPrime_1 : decode cX12_isPrime 1 = .ok (.getfield 23, 3) := by decide +kernel
theorem dX12_isPrime_4 : decode cX12_isPrime 4 = .ok (.iload_n 1, 1) := by decide +kernel
theorem dX12_isPrime_5 : decode cX12_isPrime 5 = .ok (.iaload, 1) := by decide +kernel
theorem dX12_isPrime_6 : decode cX12_isPrime 6 = .ok (.iconst 1, 1) := by decide +kernel
theorem dX12_isPrime_7 : decode cX12_isPrime 7 = .ok (.if_icmp .ne 7, 3) := by decide +kernel
theorem dX12_isPrime_10 : decode cX12_isPrime 10 = .ok (.iconst 1, 1) := by decide +kernel
theorem dX12_isPrime_11 : decode cX12_isPrime 11 = .ok (.goto 4, 3) := by decide +kernel
theorem dX12_isPrime_14 : decode cX12_isPrime 14 = .ok (.iconst 0, 1) := by decide +kernel
theorem dX12_isPrime_15 : decode cX12_isPrime 15 = .ok (.ireturn, 1) := by decide +kernel
theorem dX12_mayBy_0 : decode cX12_mayBy 0 = .ok (.iload_n 3, 1) := by decide +kernel
theorem dX12_mayBy_1 : decode cX12_mayBy 1 = .ok (.iload 4, 2) := by decide +kernel
theorem dX12_mayBy_3 : decode cX12_mayBy 3 = .ok (.if_icmp .eq 21, 3) := by decide +kernel
theorem dX12_mayBy_6 : decode cX12_mayBy 6 = .ok (.iload_n 3, 1) := by decide +kernel
theorem dX12_mayBy_7 : decode cX12_mayBy 7 = .ok (.iload 4, 2) := by decide +kernel
theorem dX12_mayBy_9 : decode cX12_mayBy 9 = .ok (.invokestatic 69, 3) := by decide +kernel
theorem dX12_mayBy_12 : decode cX12_mayBy 12 = .ok (.ifCond .ne 16, 3) := by decide +kernel
theorem dX12_mayBy_15 : decode cX12_mayBy 15 = .ok (.iload 4, 2) := by decide +kernel
theorem dX12_mayBy_17 : decode cX12_mayBy 17 = .ok (.iload_n 3, 1) := by decide +kernel
theorem dX12_mayBy_18 : decode cX12_mayBy 18 = .ok (.invokestatic 69, 3) := by decide +kernel
theorem dX12_mayBy_21 : decode cX12_mayBy 21 = .ok (.ifCond .ne 7, 3) := by decide +kernel
theorem dX12_mayBy_24 : decode cX12_mayBy 24 = .ok (.iconst 1, 1) := by decide +kernel
theorem dX12_mayBy_25 : decode cX12_mayBy 25 = .ok (.goto 4, 3) := by decide +kernel
theorem dX12_mayBy_28 : decode cX12_mayBy 28 = .ok (.iconst 0, 1) := by decide +kernel
theorem dX12_mayBy_29 : decode cX12_mayBy 29 = .ok (.istore 5, 2) := by decide +kernel
theorem dX12_mayBy_31 : decode cX12_mayBy 31 = .ok (.iload 5, 2) := by decide +kernel
theorem dX12_mayBy_33 : decode cX12_mayBy 33 = .ok (.ifCond .eq 16, 3) := by decide +kernel
theorem dX12_mayBy_36 : decode cX12_mayBy 36 = .ok (.iload_n 3, 1) := by decide +kernel
theorem dX12_mayBy_37 : decode cX12_mayBy 37 = .ok (.iload 4, 2) := by decide +kernel
theorem dX12_mayBy_39 : decode cX12_mayBy 39 = .ok (.isub, 1) := by decide +kernel
theorem dX12_mayBy_40 : decode cX12_mayBy 40 = .ok (.iconst 2, 1) := by decide +kernel
theorem dX12_mayBy_41 : decode cX12_mayBy 41 = .ok (.irem, 1) := by decide +kernel
theorem dX12_mayBy_42 : decode cX12_mayBy 42 = .ok (.ifCond .ne 7, 3) := by decide +kernel
theorem dX12_mayBy_45 : decode cX12_mayBy 45 = .ok (.iconst 1, 1) := by decide +kernel
theorem dX12_mayBy_46 : decode cX12_mayBy 46 = .ok (.goto 4, 3) := by decide +kernel
theorem dX12_mayBy_49 : decode cX12_mayBy 49 = .ok (.iconst 0, 1) := by decide +kernel
theorem dX12_mayBy_50 : decode cX12_mayBy 50 = .ok (.istore 6, 2) := by decide +kernel
theorem dX12_mayBy_52 : decode cX12_mayBy 52 = .ok (.iload 5, 2) := by decide +kernel
theorem dX12_mayBy_54 : decode cX12_mayBy 54 = .ok (.ifCond .eq 24, 3) := by decide +kernel
theorem dX12_mayBy_57 : decode cX12_mayBy 57 = .ok (.aload_n 0, 1) := by decide +kernel
theorem dX12_mayBy_58 : decode cX12_mayBy 58 = .ok (.iload_n 3, 1) := by decide +kernel
theorem dX12_mayBy_59 : decode cX12_mayBy 59 = .ok (.invokevirtual 73, 3) := by decide +kernel
theorem dX12_mayBy_62 : decode cX12_mayBy 62 = .ok (.ifCond .ne 16, 3) := by decide +kernel
theorem dX12_mayBy_65 : decode cX12_mayBy 65 = .ok (.aload_n 0, 1) := by decide +kernel
theorem dX12_mayBy_66 : decode cX12_mayBy 66 = .ok (.iload 4, 2) := by decide +kernel
theorem dX12_mayBy_68 : decode cX12_mayBy 68 = .ok (.invokevirtual 73, 3) := by decide +kernel
theorem dX12_mayBy_71 : decode cX12_mayBy 71 = .ok (.ifCond .ne 7, 3) := by decide +kernel
theorem dX12_mayBy_74 : decode cX12_mayBy 74 = .ok (.iconst 1, 1) := by decide +kernel
theorem dX12_mayBy_75 : decode cX12_mayBy 75 = .ok (.goto 4, 3) := by decide +kernel
theorem dX12_mayBy_78 : decode cX12_mayBy 78 = .ok (.iconst 0, 1) := by decide +kernel
theorem dX12_mayBy_79 : decode cX12_mayBy 79 = .ok (.istore 7, 2) := by decide +kernel
theorem dX12_mayBy_81 : decode cX12_mayBy 81 = .ok (.iload_n 1, 1) := by decide +kernel
theorem dX12_mayBy_82 : decode cX12_mayBy 82 = .ok (.tableswitch 126 1 5 #[34, 37, 40, 66, 93], 34) := by decide +kernel
theorem dX12_mayBy_116 : decode cX12_mayBy 116 = .ok (.iload 6, 2) := by decide +kernel
theorem dX12_mayBy_118 : decode cX12_mayBy 118 = .ok (.ireturn, 1) := by decide +kernel
theorem dX12_mayBy_119 : decode cX12_mayBy 119 = .ok (.iload 7, 2) := by decide +kernel
theorem dX12_mayBy_121 : decode cX12_mayBy 121 = .ok (.ireturn, 1) := by decide +kernel
theorem dX12_mayBy_122 : decode cX12_mayBy 122 = .ok (.iload 6, 2) := by decide +kernel
theorem dX12_mayBy_124 : decode cX12_mayBy 124 = .ok (.ifCond .ne 18, 3) := by decide +kernel
theorem dX12_mayBy_127 : decode cX12_mayBy 127 = .ok (.iload_n 3, 1) := by decide +kernel
theorem dX12_mayBy_128 : decode cX12_mayBy 128 = .ok (.invokestatic 77, 3) := by decide +kernel
theorem dX12_mayBy_131 : decode cX12_mayBy 131 = .ok (.ifCond .eq 15, 3) := by decide +kernel
theorem dX12_mayBy_134 : decode cX12_mayBy 134 = .ok (.iload 4, 2) := by decide +kernel
theorem dX12_mayBy_136 : decode cX12_mayBy 136 = .ok (.invokestatic 77, 3) := by decide +kernel
theorem dX12_mayBy_139 : decode cX12_mayBy 139 = .ok (.ifCond .eq 7, 3) := by decide +kernel
theorem dX12_mayBy_142 : decode cX12_mayBy 142 = .ok (.iconst 1, 1) := by decide +kernel
theorem dX12_mayBy_143 : decode cX12_mayBy 143 = .ok (.goto 4, 3) := by decide +kernel
theorem dX12_mayBy_146 : decode cX12_mayBy 146 = .ok (.iconst 0, 1) := by decide +kernel
theorem dX12_mayBy_147 : decode cX12_mayBy 147 = .ok (.ireturn, 1) := by decide +kernel
theorem dX12_mayBy_148 : decode cX12_mayBy 148 = .ok (.iload 5, 2) := by decide +kernel
theorem dX12_mayBy_150 : decode cX12_mayBy 150 = .ok (.ifCond .eq 23, 3) := by decide +kernel
theorem dX12_mayBy_153 : decode cX12_mayBy 153 = .ok (.iload_n 3, 1) := by decide +kernel
theorem dX12_mayBy_154 : decode cX12_mayBy 154 = .ok (.iload 4, 2) := by decide +kernel
theorem dX12_mayBy_156 : decode cX12_mayBy 156 = .ok (.isub, 1) := by decide +kernel
theorem dX12_mayBy_157 : decode cX12_mayBy 157 = .ok (.iload_n 2, 1) := by decide +kernel
theorem dX12_mayBy_158 : decode cX12_mayBy 158 = .ok (.if_icmp .ge 11, 3) := by decide +kernel
theorem dX12_mayBy_161 : decode cX12_mayBy 161 = .ok (.iload 4, 2) := by decide +kernel
theorem dX12_mayBy_163 : decode cX12_mayBy 163 = .ok (.iload_n 3, 1) := by decide +kernel
theorem dX12_mayBy_164 : decode cX12_mayBy 164 = .ok (.isub, 1) := by decide +kernel
theorem dX12_mayBy_165 : decode cX12_mayBy 165 = .ok (.iload_n 2, 1) := by decide +kernel
theorem dX12_mayBy_166 : decode cX12_mayBy 166 = .ok (.if_icmp .lt 7, 3) := by decide +kernel
theorem dX12_mayBy_169 : decode cX12_mayBy 169 = .ok (.iconst 1, 1) := by decide +kernel
theorem dX12_mayBy_170 : decode cX12_mayBy 170 = .ok (.goto 4, 3) := by decide +kernel
theorem dX12_mayBy_173 : decode cX12_mayBy 173 = .ok (.iconst 0, 1) := by decide +kernel
theorem dX12_mayBy_174 : decode cX12_mayBy 174 = .ok (.ireturn, 1) := by decide +kernel
theorem dX12_mayBy_175 : decode cX12_mayBy 175 = .ok (.iload 7, 2) := by decide +kernel
theorem dX12_mayBy_177 : decode cX12_mayBy 177 = .ok (.ifCond .ne 25, 3) := by decide +kernel
theorem dX12_mayBy_180 : decode cX12_mayBy 180 = .ok (.aload_n 0, 1) := by decide +kernel
theorem dX12_mayBy_181 : decode cX12_mayBy 181 = .ok (.getfield 23, 3) := by decide +kernel
theorem dX12_mayBy_184 : decode cX12_mayBy 184 = .ok (.iload_n 3, 1) := by decide +kernel
theorem dX12_mayBy_185 : decode cX12_mayBy 185 = .ok (.iaload, 1) := by decide +kernel
theorem dX12_mayBy_186 : decode cX12_mayBy 186 = .ok (.iload 4, 2) := by decide +kernel
theorem dX12_mayBy_188 : decode cX12_mayBy 188 = .ok (.if_icmp .ne 18, 3) := by decide +kernel
theorem dX12_mayBy_191 : decode cX12_mayBy 191 = .ok (.aload_n 0, 1) := by decide +kernel
theorem dX12_mayBy_192 : decode cX12_mayBy 192 = .ok (.getfield 23, 3) := by decide +kernel
theorem dX12_mayBy_195 : decode cX12_mayBy 195 = .ok (.iload 4, 2) := by decide +kernel
theorem dX12_mayBy_197 : decode cX12_mayBy 197 = .ok (.iaload, 1) := by decide +kernel
theorem dX12_mayBy_198 : decode cX12_mayBy 198 = .ok (.iload_n 3, 1) := by decide +kernel
theorem dX12_mayBy_199 : decode cX12_mayBy 199 = .ok (.if_icmp .ne 7, 3) := by decide +kernel
theorem dX12_mayBy_202 : decode cX12_mayBy 202 = .ok (.iconst 1, 1) := by decide +kernel
theorem dX12_mayBy_203 : decode cX12_mayBy 203 = .ok (.goto 4, 3) := by decide +kernel
theorem dX12_mayBy_206 : decode cX12_mayBy 206 = .ok (.iconst 0, 1) := by decide +kernel
theorem dX12_mayBy_207 : decode cX12_mayBy 207 = .ok (.ireturn, 1) := by decide +kernel
theorem dX12_mayBy_208 : decode cX12_mayBy 208 = .ok (.iload 5, 2) := by decide +kernel
theorem dX12_mayBy_210 : decode cX12_mayBy 210 = .ok (.ireturn, 1) := by decide +kernel
theorem dX12_mayNow_0 : decode cX12_mayNow 0 = .ok (.aload_n 0, 1) := by decide +kernel
theorem dX12_mayNow_1 : decode cX12_mayNow 1 = .ok (.aload_n 0, 1) := by decide +kernel
theorem dX12_mayNow_2 : decode cX12_mayNow 2 = .ok (.getfield 7, 3) := by decide +kernel
theorem dX12_mayNow_5 : decode cX12_mayNow 5 = .ok (.bipush 8, 2) := by decide +kernel
theorem dX12_mayNow_7 : decode cX12_mayNow 7 = .ok (.iaload, 1) := by decide +kernel
theorem dX12_mayNow_8 : decode cX12_mayNow 8 = .ok (.aload_n 0, 1) := by decide +kernel
theorem dX12_mayNow_9 : decode cX12_mayNow 9 = .ok (.getfield 7, 3) := by decide +kernel
theorem dX12_mayNow_12 : decode cX12_mayNow 12 = .ok (.bipush 9, 2) := by decide +kernel
theorem dX12_mayNow_14 : decode cX12_mayNow 14 = .ok (.iaload, 1) := by decide +kernel
theorem dX12_mayNow_15 : decode cX12_mayNow 15 = .ok (.iload_n 1, 1) := by decide +kernel
theorem dX12_mayNow_16 : decode cX12_mayNow 16 = .ok (.iload_n 2, 1) := by decide +kernel
theorem dX12_mayNow_17 : decode cX12_mayNow 17 = .ok (.invokevirtual 80, 3) := by decide +kernel
theorem dX12_mayNow_20 : decode cX12_mayNow 20 = .ok (.ireturn, 1) := by decide +kernel
theorem dX12_begin_0 : decode cX12_begin 0 = .ok (.iconst 0, 1) := by decide +kernel
theorem dX12_begin_1 : decode cX12_begin 1 = .ok (.istore_n 3, 1) := by decide +kernel
theorem dX12_begin_2 : decode cX12_begin 2 = .ok (.iload_n 3, 1) := by decide +kernel
theorem dX12_begin_3 : decode cX12_begin 3 = .ok (.bipush 69, 2) := by decide +kernel
theorem dX12_begin_5 : decode cX12_begin 5 = .ok (.if_icmp .ge 13, 3) := by decide +kernel
theorem dX12_begin_8 : decode cX12_begin 8 = .ok (.aload_n 0, 1) := by decide +kernel
theorem dX12_begin_9 : decode cX12_begin 9 = .ok (.iload_n 3, 1) := by decide +kernel
theorem dX12_begin_10 : decode cX12_begin 10 = .ok (.iconst 0, 1) := by decide +kernel
theorem dX12_begin_11 : decode cX12_begin 11 = .ok (.iastore, 1) := by decide +kernel
theorem dX12_begin_12 : decode cX12_begin 12 = .ok (.iinc 3 1, 3) := by decide +kernel
theorem dX12_begin_15 : decode cX12_begin 15 = .ok (.goto (-13), 3) := by decide +kernel
theorem dX12_begin_18 : decode cX12_begin 18 = .ok (.aload_n 0, 1) := by decide +kernel
theorem dX12_begin_19 : decode cX12_begin 19 = .ok (.bipush 8, 2) := by decide +kernel
theorem dX12_begin_21 : decode cX12_begin 21 = .ok (.iload_n 1, 1) := by decide +kernel
theorem dX12_begin_22 : decode cX12_begin 22 = .ok (.iastore, 1) := by decide +kernel
theorem dX12_begin_23 : decode cX12_begin 23 = .ok (.aload_n 0, 1) := by decide +kernel
theorem dX12_begin_24 : decode cX12_begin 24 = .ok (.bipush 9, 2) := by decide +kernel
theorem dX12_begin_26 : decode cX12_begin 26 = .ok (.iload_n 2, 1) := by decide +kernel
theorem dX12_begin_27 : decode cX12_begin 27 = .ok (.iastore, 1) := by decide +kernel
theorem dX12_begin_28 : decode cX12_begin 28 = .ok (.return_, 1) := by decide +kernel
theorem dX12_lived_0 : decode cX12_lived 0 = .ok (.iconst 0, 1) := by decide +kernel
theorem dX12_lived_1 : decode cX12_lived 1 = .ok (.istore_n 1, 1) := by decide +kernel
theorem dX12_lived_2 : decode cX12_lived 2 = .ok (.iconst 0, 1) := by decide +kernel
theorem dX12_lived_3 : decode cX12_lived 3 = .ok (.istore_n 2, 1) := by decide +kernel
theorem dX12_lived_4 : decode cX12_lived 4 = .ok (.iload_n 2, 1) := by decide +kernel
theorem dX12_lived_5 : decode cX12_lived 5 = .ok (.bipush 8, 2) := by decide +kernel
theorem dX12_lived_7 : decode cX12_lived 7 = .ok (.if_icmp .ge 28, 3) := by decide +kernel
theorem dX12_lived_10 : decode cX12_lived 10 = .ok (.iload_n 1, 1) := by decide +kernel
theorem dX12_lived_11 : decode cX12_lived 11 = .ok (.aload_n 0, 1) := by decide +kernel
theorem dX12_lived_12 : decode cX12_lived 12 = .ok (.getfield 7, 3) := by decide +kernel
theorem dX12_lived_15 : decode cX12_lived 15 = .ok (.iload_n 2, 1) := by decide +kernel
theorem dX12_lived_16 : decode cX12_lived 16 = .ok (.iaload, 1) := by decide +kernel
theorem dX12_lived_17 : decode cX12_lived 17 = .ok (.ifCond .le 9, 3) := by decide +kernel
theorem dX12_lived_20 : decode cX12_lived 20 = .ok (.iconst 1, 1) := by decide +kernel
theorem dX12_lived_21 : decode cX12_lived 21 = .ok (.iload_n 2, 1) := by decide +kernel
theorem dX12_lived_22 : decode cX12_lived 22 = .ok (.ishl, 1) := by decide +kernel
theorem dX12_lived_23 : decode cX12_lived 23 = .ok (.goto 4, 3) := by decide +kernel
theorem dX12_lived_26 : decode cX12_lived 26 = .ok (.iconst 0, 1) := by decide +kernel
theorem dX12_lived_27 : decode cX12_lived 27 = .ok (.ior, 1) := by decide +kernel
theorem dX12_lived_28 : decode cX12_lived 28 = .ok (.istore_n 1, 1) := by decide +kernel
theorem dX12_lived_29 : decode cX12_lived 29 = .ok (.iinc 2 1, 3) := by decide +kernel
theorem dX12_lived_32 : decode cX12_lived 32 = .ok (.goto (-28), 3) := by decide +kernel
theorem dX12_lived_35 : decode cX12_lived 35 = .ok (.iload_n 1, 1) := by decide +kernel
theorem dX12_lived_36 : decode cX12_lived 36 = .ok (.ireturn, 1) := by decide +kernel
theorem dX12_law_0 : decode cX12_law 0 = .ok (.bipush 10, 2) := by decide +kernel
theorem dX12_law_2 : decode cX12_law 2 = .ok (.aload_n 0, 1) := by decide +kernel
theorem dX12_law_3 : decode cX12_law 3 = .ok (.getfield 7, 3) := by decide +kernel
theorem dX12_law_6 : decode cX12_law 6 = .ok (.bipush 8, 2) := by decide +kernel
theorem dX12_law_8 : decode cX12_law 8 = .ok (.iaload, 1) := by decide +kernel
theorem dX12_law_9 : decode cX12_law 9 = .ok (.imul, 1) := by decide +kernel
theorem dX12_law_10 : decode cX12_law 10 = .ok (.aload_n 0, 1) := by decide +kernel
theorem dX12_law_11 : decode cX12_law 11 = .ok (.getfield 7, 3) := by decide +kernel
theorem dX12_law_14 : decode cX12_law 14 = .ok (.bipush 9, 2) := by decide +kernel
theorem dX12_law_16 : decode cX12_law 16 = .ok (.iaload, 1) := by decide +kernel
theorem dX12_law_17 : decode cX12_law 17 = .ok (.iadd, 1) := by decide +kernel
theorem dX12_law_18 : decode cX12_law 18 = .ok (.ireturn, 1) := by decide +kernel
theorem dX12_keep_0 : decode cX12_keep 0 = .ok (.aload_n 0, 1) := by decide +kernel
theorem dX12_keep_1 : decode cX12_keep 1 = .ok (.getfield 7, 3) := by decide +kernel
theorem dX12_keep_4 : decode cX12_keep 4 = .ok (.bipush 12, 2) := by decide +kernel
theorem dX12_keep_6 : decode cX12_keep 6 = .ok (.iaload, 1) := by decide +kernel
theorem dX12_keep_7 : decode cX12_keep 7 = .ok (.bipush 8, 2) := by decide +kernel
theorem dX12_keep_9 : decode cX12_keep 9 = .ok (.if_icmp .ne 44, 3) := by decide +kernel
theorem dX12_keep_12 : decode cX12_keep 12 = .ok (.iconst 0, 1) := by decide +kernel
theorem dX12_keep_13 : decode cX12_keep 13 = .ok (.istore_n 1, 1) := by decide +kernel
theorem dX12_keep_14 : decode cX12_keep 14 = .ok (.iload_n 1, 1) := by decide +kernel
theorem dX12_keep_15 : decode cX12_keep 15 = .ok (.bipush 70, 2) := by decide +kernel
theorem dX12_keep_17 : decode cX12_keep 17 = .ok (.if_icmp .ge 27, 3) := by decide +kernel
theorem dX12_keep_20 : decode cX12_keep 20 = .ok (.aload_n 0, 1) := by decide +kernel
theorem dX12_keep_21 : decode cX12_keep 21 = .ok (.getfield 7, 3) := by decide +kernel
theorem dX12_keep_24 : decode cX12_keep 24 = .ok (.bipush 69, 2) := by decide +kernel
theorem dX12_keep_26 : decode cX12_keep 26 = .ok (.iload_n 1, 1) := by decide +kernel
theorem dX12_keep_27 : decode cX12_keep 27 = .ok (.iadd, 1) := by decide +kernel
theorem dX12_keep_28 : decode cX12_keep 28 = .ok (.aload_n 0, 1) := by decide +kernel
theorem dX12_keep_29 : decode cX12_keep 29 = .ok (.getfield 7, 3) := by decide +kernel
theorem dX12_keep_32 : decode cX12_keep 32 = .ok (.bipush 79, 2) := by decide +kernel
theorem dX12_keep_34 : decode cX12_keep 34 = .ok (.iload_n 1, 1) := by decide +kernel
theorem dX12_keep_35 : decode cX12_keep 35 = .ok (.iadd, 1) := by decide +kernel
theorem dX12_keep_36 : decode cX12_keep 36 = .ok (.iaload, 1) := by decide +kernel
theorem dX12_keep_37 : decode cX12_keep 37 = .ok (.iastore, 1) := by decide +kernel
theorem dX12_keep_38 : decode cX12_keep 38 = .ok (.iinc 1 1, 3) := by decide +kernel
theorem dX12_keep_41 : decode cX12_keep 41 = .ok (.goto (-27), 3) := by decide +kernel
theorem dX12_keep_44 : decode cX12_keep 44 = .ok (.aload_n 0, 1) := by decide +kernel
theorem dX12_keep_45 : decode cX12_keep 45 = .ok (.getfield 7, 3) := by decide +kernel
theorem dX12_keep_48 : decode cX12_keep 48 = .ok (.bipush 12, 2) := by decide +kernel
theorem dX12_keep_50 : decode cX12_keep 50 = .ok (.bipush 7, 2) := by decide +kernel
theorem dX12_keep_52 : decode cX12_keep 52 = .ok (.iastore, 1) := by decide +kernel
theorem dX12_keep_53 : decode cX12_keep 53 = .ok (.iconst 0, 1) := by decide +kernel
theorem dX12_keep_54 : decode cX12_keep 54 = .ok (.istore_n 1, 1) := by decide +kernel
theorem dX12_keep_55 : decode cX12_keep 55 = .ok (.iload_n 1, 1) := by decide +kernel
theorem dX12_keep_56 : decode cX12_keep 56 = .ok (.bipush 10, 2) := by decide +kernel
theorem dX12_keep_58 : decode cX12_keep 58 = .ok (.if_icmp .ge 35, 3) := by decide +kernel
theorem dX12_keep_61 : decode cX12_keep 61 = .ok (.aload_n 0, 1) := by decide +kernel
theorem dX12_keep_62 : decode cX12_keep 62 = .ok (.getfield 7, 3) := by decide +kernel
theorem dX12_keep_65 : decode cX12_keep 65 = .ok (.bipush 69, 2) := by decide +kernel
theorem dX12_keep_67 : decode cX12_keep 67 = .ok (.bipush 10, 2) := by decide +kernel
theorem dX12_keep_69 : decode cX12_keep 69 = .ok (.aload_n 0, 1) := by decide +kernel
theorem dX12_keep_70 : decode cX12_keep 70 = .ok (.getfield 7, 3) := by decide +kernel
theorem dX12_keep_73 : decode cX12_keep 73 = .ok (.bipush 12, 2) := by decide +kernel
theorem dX12_keep_75 : decode cX12_keep 75 = .ok (.iaload, 1) := by decide +kernel
theorem dX12_keep_76 : decode cX12_keep 76 = .ok (.imul, 1) := by decide +kernel
theorem dX12_keep_77 : decode cX12_keep 77 = .ok (.iadd, 1) := by decide +kernel
theorem dX12_keep_78 : decode cX12_keep 78 = .ok (.iload_n 1, 1) := by decide +kernel
theorem dX12_keep_79 : decode cX12_keep 79 = .ok (.iadd, 1) := by decide +kernel
theorem dX12_keep_80 : decode cX12_keep 80 = .ok (.aload_n 0, 1) := by decide +kernel
theorem dX12_keep_81 : decode cX12_keep 81 = .ok (.getfield 7, 3) := by decide +kernel
theorem dX12_keep_84 : decode cX12_keep 84 = .ok (.iload_n 1, 1) := by decide +kernel
theorem dX12_keep_85 : decode cX12_keep 85 = .ok (.iaload, 1) := by decide +kernel
theorem dX12_keep_86 : decode cX12_keep 86 = .ok (.iastore, 1) := by decide +kernel
theorem dX12_keep_87 : decode cX12_keep 87 = .ok (.iinc 1 1, 3) := by decide +kernel
theorem dX12_keep_90 : decode cX12_keep 90 = .ok (.goto (-35), 3) := by decide +kernel
theorem dX12_keep_93 : decode cX12_keep 93 = .ok (.aload_n 0, 1) := by decide +kernel
theorem dX12_keep_94 : decode cX12_keep 94 = .ok (.getfield 7, 3) := by decide +kernel
theorem dX12_keep_97 : decode cX12_keep 97 = .ok (.bipush 12, 2) := by decide +kernel
theorem dX12_keep_99 : decode cX12_keep 99 = .ok (.dup2, 1) := by decide +kernel
theorem dX12_keep_100 : decode cX12_keep 100 = .ok (.iaload, 1) := by decide +kernel
theorem dX12_keep_101 : decode cX12_keep 101 = .ok (.iconst 1, 1) := by decide +kernel
theorem dX12_keep_102 : decode cX12_keep 102 = .ok (.iadd, 1) := by decide +kernel
theorem dX12_keep_103 : decode cX12_keep 103 = .ok (.iastore, 1) := by decide +kernel
theorem dX12_keep_104 : decode cX12_keep 104 = .ok (.return_, 1) := by decide +kernel
theorem dX12_street_0 : decode cX12_street 0 = .ok (.iload_n 1, 1) := by decide +kernel
theorem dX12_street_1 : decode cX12_street 1 = .ok (.iload_n 2, 1) := by decide +kernel
theorem dX12_street_2 : decode cX12_street 2 = .ok (.invokestatic 84, 3) := by decide +kernel
theorem dX12_street_5 : decode cX12_street 5 = .ok (.ifCond .ne 10, 3) := by decide +kernel
theorem dX12_street_8 : decode cX12_street 8 = .ok (.aload_n 0, 1) := by decide +kernel
theorem dX12_street_9 : decode cX12_street 9 = .ok (.bipush (-2), 2) := by decide +kernel
theorem dX12_street_11 : decode cX12_street 11 = .ok (.invokevirtual 87, 3) := by decide +kernel
theorem dX12_street_14 : decode cX12_street 14 = .ok (.ireturn, 1) := by decide +kernel
theorem dX12_street_15 : decode cX12_street 15 = .ok (.aload_n 0, 1) := by decide +kernel
theorem dX12_street_16 : decode cX12_street 16 = .ok (.invokevirtual 91, 3) := by decide +kernel
theorem dX12_street_19 : decode cX12_street 19 = .ok (.invokestatic 95, 3) := by decide +kernel
theorem dX12_street_22 : decode cX12_street 22 = .ok (.istore_n 3, 1) := by decide +kernel
theorem dX12_street_23 : decode cX12_street 23 = .ok (.aload_n 0, 1) := by decide +kernel
theorem dX12_street_24 : decode cX12_street 24 = .ok (.getfield 7, 3) := by decide +kernel
theorem dX12_street_27 : decode cX12_street 27 = .ok (.iload_n 1, 1) := by decide +kernel
theorem dX12_street_28 : decode cX12_street 28 = .ok (.iload_n 2, 1) := by decide +kernel
theorem dX12_street_29 : decode cX12_street 29 = .ok (.invokestatic 98, 3) := by decide +kernel
theorem dX12_street_32 : decode cX12_street 32 = .ok (.iload_n 3, 1) := by decide +kernel
theorem dX12_street_33 : decode cX12_street 33 = .ok (.ireturn, 1) := by decide +kernel
theorem dX12_rule_0 : decode cX12_rule 0 = .ok (.iload_n 1, 1) := by decide +kernel
theorem dX12_rule_1 : decode cX12_rule 1 = .ok (.iload_n 2, 1) := by decide +kernel
theorem dX12_rule_2 : decode cX12_rule 2 = .ok (.invokestatic 84, 3) := by decide +kernel
theorem dX12_rule_5 : decode cX12_rule 5 = .ok (.ifCond .ne 10, 3) := by decide +kernel
theorem dX12_rule_8 : decode cX12_rule 8 = .ok (.aload_n 0, 1) := by decide +kernel
theorem dX12_rule_9 : decode cX12_rule 9 = .ok (.bipush (-2), 2) := by decide +kernel
theorem dX12_rule_11 : decode cX12_rule 11 = .ok (.invokevirtual 87, 3) := by decide +kernel
theorem dX12_rule_14 : decode cX12_rule 14 = .ok (.ireturn, 1) := by decide +kernel
theorem dX12_rule_15 : decode cX12_rule 15 = .ok (.aload_n 0, 1) := by decide +kernel
theorem dX12_rule_16 : decode cX12_rule 16 = .ok (.invokevirtual 102, 3) := by decide +kernel
theorem dX12_rule_19 : decode cX12_rule 19 = .ok (.istore_n 3, 1) := by decide +kernel
theorem dX12_rule_20 : decode cX12_rule 20 = .ok (.aload_n 0, 1) := by decide +kernel
theorem dX12_rule_21 : decode cX12_rule 21 = .ok (.invokevirtual 105, 3) := by decide +kernel
theorem dX12_rule_24 : decode cX12_rule 24 = .ok (.aload_n 0, 1) := by decide +kernel
theorem dX12_rule_25 : decode cX12_rule 25 = .ok (.getfield 7, 3) := by decide +kernel
theorem dX12_rule_28 : decode cX12_rule 28 = .ok (.bipush 8, 2) := by decide +kernel
theorem dX12_rule_30 : decode cX12_rule 30 = .ok (.iload_n 1, 1) := by decide +kernel
theorem dX12_rule_31 : decode cX12_rule 31 = .ok (.iastore, 1) := by decide +kernel
theorem dX12_rule_32 : decode cX12_rule 32 = .ok (.aload_n 0, 1) := by decide +kernel
theorem dX12_rule_33 : decode cX12_rule 33 = .ok (.getfield 7, 3) := by decide +kernel
theorem dX12_rule_36 : decode cX12_rule 36 = .ok (.bipush 9, 2) := by decide +kernel
theorem dX12_rule_38 : decode cX12_rule 38 = .ok (.iload_n 2, 1) := by decide +kernel
theorem dX12_rule_39 : decode cX12_rule 39 = .ok (.iastore, 1) := by decide +kernel
theorem dX12_rule_40 : decode cX12_rule 40 = .ok (.iload_n 3, 1) := by decide +kernel
theorem dX12_rule_41 : decode cX12_rule 41 = .ok (.ireturn, 1) := by decide +kernel
theorem dX12_house_0 : decode cX12_house 0 = .ok (.iload_n 1, 1) := by decide +kernel
theorem dX12_house_1 : decode cX12_house 1 = .ok (.invokestatic 108, 3) := by decide +kernel
theorem dX12_house_4 : decode cX12_house 4 = .ok (.ifCond .eq 15, 3) := by decide +kernel
theorem dX12_house_7 : decode cX12_house 7 = .ok (.iload_n 2, 1) := by decide +kernel
theorem dX12_house_8 : decode cX12_house 8 = .ok (.i2l, 1) := by decide +kernel
theorem dX12_house_9 : decode cX12_house 9 = .ok (.lconst 0, 1) := by decide +kernel
theorem dX12_house_10 : decode cX12_house 10 = .ok (.ldc2_w 63, 3) := by decide +kernel
theorem dX12_house_13 : decode cX12_house 13 = .ok (.invokestatic 59, 3) := by decide +kernel
theorem dX12_house_16 : decode cX12_house 16 = .ok (.ifCond .ne 10, 3) := by decide +kernel
theorem dX12_house_19 : decode cX12_house 19 = .ok (.aload_n 0, 1) := by decide +kernel
theorem dX12_house_20 : decode cX12_house 20 = .ok (.bipush (-2), 2) := by decide +kernel
theorem dX12_house_22 : decode cX12_house 22 = .ok (.invokevirtual 87, 3) := by decide +kernel
theorem dX12_house_25 : decode cX12_house 25 = .ok (.ireturn, 1) := by decide +kernel
theorem dX12_house_26 : decode cX12_house 26 = .ok (.aload_n 0, 1) := by decide +kernel
theorem dX12_house_27 : decode cX12_house 27 = .ok (.getfield 7, 3) := by decide +kernel
theorem dX12_house_30 : decode cX12_house 30 = .ok (.iload_n 1, 1) := by decide +kernel
theorem dX12_house_31 : decode cX12_house 31 = .ok (.iaload, 1) := by decide +kernel
theorem dX12_house_32 : decode cX12_house 32 = .ok (.istore_n 3, 1) := by decide +kernel
theorem dX12_house_33 : decode cX12_house 33 = .ok (.aload_n 0, 1) := by decide +kernel
theorem dX12_house_34 : decode cX12_house 34 = .ok (.invokevirtual 105, 3) := by decide +kernel
theorem dX12_house_37 : decode cX12_house 37 = .ok (.aload_n 0, 1) := by decide +kernel
theorem dX12_house_38 : decode cX12_house 38 = .ok (.getfield 7, 3) := by decide +kernel
theorem dX12_house_41 : decode cX12_house 41 = .ok (.iload_n 1, 1) := by decide +kernel
theorem dX12_house_42 : decode cX12_house 42 = .ok (.iload_n 2, 1) := by decide +kernel
theorem dX12_house_43 : decode cX12_house 43 = .ok (.iastore, 1) := by decide +kernel
theorem dX12_house_44 : decode cX12_house 44 = .ok (.iload_n 3, 1) := by decide +kernel
theorem dX12_house_45 : decode cX12_house 45 = .ok (.ireturn, 1) := by decide +kernel
theorem dX12_birthday_0 : decode cX12_birthday 0 = .ok (.iload_n 1, 1) := by decide +kernel
theorem dX12_birthday_1 : decode cX12_birthday 1 = .ok (.invokestatic 108, 3) := by decide +kernel
theorem dX12_birthday_4 : decode cX12_birthday 4 = .ok (.ifCond .ne 10, 3) := by decide +kernel
theorem dX12_birthday_7 : decode cX12_birthday 7 = .ok (.aload_n 0, 1) := by decide +kernel
theorem dX12_birthday_8 : decode cX12_birthday 8 = .ok (.bipush (-2), 2) := by decide +kernel
theorem dX12_birthday_10 : decode cX12_birthday 10 = .ok (.invokevirtual 87, 3) := by decide +kernel
theorem dX12_birthday_13 : decode cX12_birthday 13 = .ok (.ireturn, 1) := by decide +kernel
theorem dX12_birthday_14 : decode cX12_birthday 14 = .ok (.aload_n 0, 1) := by decide +kernel
theorem dX12_birthday_15 : decode cX12_birthday 15 = .ok (.getfield 7, 3) := by decide +kernel
theorem dX12_birthday_18 : decode cX12_birthday 18 = .ok (.iload_n 1, 1) := by decide +kernel
theorem dX12_birthday_19 : decode cX12_birthday 19 = .ok (.iaload, 1) := by decide +kernel
theorem dX12_birthday_20 : decode cX12_birthday 20 = .ok (.ifCond .eq 15, 3) := by decide +kernel
theorem dX12_birthday_23 : decode cX12_birthday 23 = .ok (.aload_n 0, 1) := by decide +kernel
theorem dX12_birthday_24 : decode cX12_birthday 24 = .ok (.getfield 7, 3) := by decide +kernel
theorem dX12_birthday_27 : decode cX12_birthday 27 = .ok (.iload_n 1, 1) := by decide +kernel
theorem dX12_birthday_28 : decode cX12_birthday 28 = .ok (.iaload, 1) := by decide +kernel
theorem dX12_birthday_29 : decode cX12_birthday 29 = .ok (.sipush 300, 3) := by decide +kernel
theorem dX12_birthday_32 : decode cX12_birthday 32 = .ok (.if_icmp .ne 8, 3) := by decide +kernel
theorem dX12_birthday_35 : decode cX12_birthday 35 = .ok (.aload_n 0, 1) := by decide +kernel
theorem dX12_birthday_36 : decode cX12_birthday 36 = .ok (.invokevirtual 111, 3) := by decide +kernel
theorem dX12_birthday_39 : decode cX12_birthday 39 = .ok (.ireturn, 1) := by decide +kernel
theorem dX12_birthday_40 : decode cX12_birthday 40 = .ok (.aload_n 0, 1) := by decide +kernel
theorem dX12_birthday_41 : decode cX12_birthday 41 = .ok (.invokevirtual 105, 3) := by decide +kernel
theorem dX12_birthday_44 : decode cX12_birthday 44 = .ok (.aload_n 0, 1) := by decide +kernel
theorem dX12_birthday_45 : decode cX12_birthday 45 = .ok (.getfield 7, 3) := by decide +kernel
theorem dX12_birthday_48 : decode cX12_birthday 48 = .ok (.iload_n 1, 1) := by decide +kernel
theorem dX12_birthday_49 : decode cX12_birthday 49 = .ok (.dup2, 1) := by decide +kernel
theorem dX12_birthday_50 : decode cX12_birthday 50 = .ok (.iaload, 1) := by decide +kernel
theorem dX12_birthday_51 : decode cX12_birthday 51 = .ok (.iconst 1, 1) := by decide +kernel
theorem dX12_birthday_52 : decode cX12_birthday 52 = .ok (.iadd, 1) := by decide +kernel
theorem dX12_birthday_53 : decode cX12_birthday 53 = .ok (.iastore, 1) := by decide +kernel
theorem dX12_birthday_54 : decode cX12_birthday 54 = .ok (.aload_n 0, 1) := by decide +kernel
theorem dX12_birthday_55 : decode cX12_birthday 55 = .ok (.getfield 7, 3) := by decide +kernel
theorem dX12_birthday_58 : decode cX12_birthday 58 = .ok (.iload_n 1, 1) := by decide +kernel
theorem dX12_birthday_59 : decode cX12_birthday 59 = .ok (.iaload, 1) := by decide +kernel
theorem dX12_birthday_60 : decode cX12_birthday 60 = .ok (.ireturn, 1) := by decide +kernel
theorem dX12_swap_0 : decode cX12_swap 0 = .ok (.iload_n 1, 1) := by decide +kernel
theorem dX12_swap_1 : decode cX12_swap 1 = .ok (.invokestatic 108, 3) := by decide +kernel
theorem dX12_swap_4 : decode cX12_swap 4 = .ok (.ifCond .eq 15, 3) := by decide +kernel
theorem dX12_swap_7 : decode cX12_swap 7 = .ok (.iload_n 2, 1) := by decide +kernel
theorem dX12_swap_8 : decode cX12_swap 8 = .ok (.invokestatic 108, 3) := by decide +kernel
theorem dX12_swap_11 : decode cX12_swap 11 = .ok (.ifCond .eq 8, 3) := by decide +kernel
theorem dX12_swap_14 : decode cX12_swap 14 = .ok (.iload_n 1, 1) := by decide +kernel
theorem dX12_swap_15 : decode cX12_swap 15 = .ok (.iload_n 2, 1) := by decide +kernel
theorem dX12_swap_16 : decode cX12_swap 16 = .ok (.if_icmp .ne 10, 3) := by decide +kernel
theorem dX12_swap_19 : decode cX12_swap 19 = .ok (.aload_n 0, 1) := by decide +kernel
theorem dX12_swap_20 : decode cX12_swap 20 = .ok (.bipush (-2), 2) := by decide +kernel
theorem dX12_swap_22 : decode cX12_swap 22 = .ok (.invokevirtual 87, 3) := by decide +kernel
theorem dX12_swap_25 : decode cX12_swap 25 = .ok (.ireturn, 1) := by decide +kernel
theorem dX12_swap_26 : decode cX12_swap 26 = .ok (.aload_n 0, 1) := by decide +kernel
theorem dX12_swap_27 : decode cX12_swap 27 = .ok (.getfield 7, 3) := by decide +kernel
theorem dX12_swap_30 : decode cX12_swap 30 = .ok (.iload_n 1, 1) := by decide +kernel
theorem dX12_swap_31 : decode cX12_swap 31 = .ok (.iaload, 1) := by decide +kernel
theorem dX12_swap_32 : decode cX12_swap 32 = .ok (.ifCond .ne 17, 3) := by decide +kernel
theorem dX12_swap_35 : decode cX12_swap 35 = .ok (.aload_n 0, 1) := by decide +kernel
theorem dX12_swap_36 : decode cX12_swap 36 = .ok (.getfield 7, 3) := by decide +kernel
theorem dX12_swap_39 : decode cX12_swap 39 = .ok (.iload_n 2, 1) := by decide +kernel
theorem dX12_swap_40 : decode cX12_swap 40 = .ok (.iaload, 1) := by decide +kernel
theorem dX12_swap_41 : decode cX12_swap 41 = .ok (.ifCond .ne 8, 3) := by decide +kernel
theorem dX12_swap_44 : decode cX12_swap 44 = .ok (.aload_n 0, 1) := by decide +kernel
theorem dX12_swap_45 : decode cX12_swap 45 = .ok (.invokevirtual 111, 3) := by decide +kernel
theorem dX12_swap_48 : decode cX12_swap 48 = .ok (.ireturn, 1) := by decide +kernel
theorem dX12_swap_49 : decode cX12_swap 49 = .ok (.aload_n 0, 1) := by decide +kernel
theorem dX12_swap_50 : decode cX12_swap 50 = .ok (.invokevirtual 105, 3) := by decide +kernel
theorem dX12_swap_53 : decode cX12_swap 53 = .ok (.aload_n 0, 1) := by decide +kernel
theorem dX12_swap_54 : decode cX12_swap 54 = .ok (.getfield 7, 3) := by decide +kernel
theorem dX12_swap_57 : decode cX12_swap 57 = .ok (.iload_n 1, 1) := by decide +kernel
theorem dX12_swap_58 : decode cX12_swap 58 = .ok (.iaload, 1) := by decide +kernel
theorem dX12_swap_59 : decode cX12_swap 59 = .ok (.istore_n 3, 1) := by decide +kernel
theorem dX12_swap_60 : decode cX12_swap 60 = .ok (.aload_n 0, 1) := by decide +kernel
theorem dX12_swap_61 : decode cX12_swap 61 = .ok (.getfield 7, 3) := by decide +kernel
theorem dX12_swap_64 : decode cX12_swap 64 = .ok (.iload_n 1, 1) := by decide +kernel
theorem dX12_swap_65 : decode cX12_swap 65 = .ok (.aload_n 0, 1) := by decide +kernel
theorem dX12_swap_66 : decode cX12_swap 66 = .ok (.getfield 7, 3) := by decide +kernel
theorem dX12_swap_69 : decode cX12_swap 69 = .ok (.iload_n 2, 1) := by decide +kernel
theorem dX12_swap_70 : decode cX12_swap 70 = .ok (.iaload, 1) := by decide +kernel
theorem dX12_swap_71 : decode cX12_swap 71 = .ok (.iastore, 1) := by decide +kernel
theorem dX12_swap_72 : decode cX12_swap 72 = .ok (.aload_n 0, 1) := by decide +kernel
theorem dX12_swap_73 : decode cX12_swap 73 = .ok (.getfield 7, 3) := by decide +kernel
theorem dX12_swap_76 : decode cX12_swap 76 = .ok (.iload_n 2, 1) := by decide +kernel
theorem dX12_swap_77 : decode cX12_swap 77 = .ok (.iload_n 3, 1) := by decide +kernel
theorem dX12_swap_78 : decode cX12_swap 78 = .ok (.iastore, 1) := by decide +kernel
theorem dX12_swap_79 : decode cX12_swap 79 = .ok (.iconst 1, 1) := by decide +kernel
theorem dX12_swap_80 : decode cX12_swap 80 = .ok (.ireturn, 1) := by decide +kernel
theorem dX12_undo_0 : decode cX12_undo 0 = .ok (.aload_n 0, 1) := by decide +kernel
theorem dX12_undo_1 : decode cX12_undo 1 = .ok (.getfield 7, 3) := by decide +kernel
theorem dX12_undo_4 : decode cX12_undo 4 = .ok (.bipush 12, 2) := by decide +kernel
theorem dX12_undo_6 : decode cX12_undo 6 = .ok (.iaload, 1) := by decide +kernel
theorem dX12_undo_7 : decode cX12_undo 7 = .ok (.ifCond .ne 8, 3) := by decide +kernel
theorem dX12_undo_10 : decode cX12_undo 10 = .ok (.aload_n 0, 1) := by decide +kernel
theorem dX12_undo_11 : decode cX12_undo 11 = .ok (.invokevirtual 111, 3) := by decide +kernel
theorem dX12_undo_14 : decode cX12_undo 14 = .ok (.ireturn, 1) := by decide +kernel
theorem dX12_undo_15 : decode cX12_undo 15 = .ok (.aload_n 0, 1) := by decide +kernel
theorem dX12_undo_16 : decode cX12_undo 16 = .ok (.getfield 7, 3) := by decide +kernel
theorem dX12_undo_19 : decode cX12_undo 19 = .ok (.bipush 12, 2) := by decide +kernel
theorem dX12_undo_21 : decode cX12_undo 21 = .ok (.dup2, 1) := by decide +kernel
theorem dX12_undo_22 : decode cX12_undo 22 = .ok (.iaload, 1) := by decide +kernel
theorem dX12_undo_23 : decode cX12_undo 23 = .ok (.iconst 1, 1) := by decide +kernel
theorem dX12_undo_24 : decode cX12_undo 24 = .ok (.isub, 1) := by decide +kernel
theorem dX12_undo_25 : decode cX12_undo 25 = .ok (.iastore, 1) := by decide +kernel
theorem dX12_undo_26 : decode cX12_undo 26 = .ok (.iconst 0, 1) := by decide +kernel
theorem dX12_undo_27 : decode cX12_undo 27 = .ok (.istore_n 1, 1) := by decide +kernel
theorem dX12_undo_28 : decode cX12_undo 28 = .ok (.iload_n 1, 1) := by decide +kernel
theorem dX12_undo_29 : decode cX12_undo 29 = .ok (.bipush 10, 2) := by decide +kernel
theorem dX12_undo_31 : decode cX12_undo 31 = .ok (.if_icmp .ge 35, 3) := by decide +kernel
theorem dX12_undo_34 : decode cX12_undo 34 = .ok (.aload_n 0, 1) := by decide +kernel
theorem dX12_undo_35 : decode cX12_undo 35 = .ok (.getfield 7, 3) := by decide +kernel
theorem dX12_undo_38 : decode cX12_undo 38 = .ok (.iload_n 1, 1) := by decide +kernel
theorem dX12_undo_39 : decode cX12_undo 39 = .ok (.aload_n 0, 1) := by decide +kernel
theorem dX12_undo_40 : decode cX12_undo 40 = .ok (.getfield 7, 3) := by decide +kernel
theorem dX12_undo_43 : decode cX12_undo 43 = .ok (.bipush 69, 2) := by decide +kernel
theorem dX12_undo_45 : decode cX12_undo 45 = .ok (.bipush 10, 2) := by decide +kernel
theorem dX12_undo_47 : decode cX12_undo 47 = .ok (.aload_n 0, 1) := by decide +kernel
theorem dX12_undo_48 : decode cX12_undo 48 = .ok (.getfield 7, 3) := by decide +kernel
theorem dX12_undo_51 : decode cX12_undo 51 = .ok (.bipush 12, 2) := by decide +kernel
theorem dX12_undo_53 : decode cX12_undo 53 = .ok (.iaload, 1) := by decide +kernel
theorem dX12_undo_54 : decode cX12_undo 54 = .ok (.imul, 1) := by decide +kernel
theorem dX12_undo_55 : decode cX12_undo 55 = .ok (.iadd, 1) := by decide +kernel
theorem dX12_undo_56 : decode cX12_undo 56 = .ok (.iload_n 1, 1) := by decide +kernel
theorem dX12_undo_57 : decode cX12_undo 57 = .ok (.iadd, 1) := by decide +kernel
theorem dX12_undo_58 : decode cX12_undo 58 = .ok (.iaload, 1) := by decide +kernel
theorem dX12_undo_59 : decode cX12_undo 59 = .ok (.iastore, 1) := by decide +kernel
theorem dX12_undo_60 : decode cX12_undo 60 = .ok (.iinc 1 1, 3) := by decide +kernel
theorem dX12_undo_63 : decode cX12_undo 63 = .ok (.goto (-35), 3) := by decide +kernel
theorem dX12_undo_66 : decode cX12_undo 66 = .ok (.aload_n 0, 1) := by decide +kernel
theorem dX12_undo_67 : decode cX12_undo 67 = .ok (.invokevirtual 91, 3) := by decide +kernel
theorem dX12_undo_70 : decode cX12_undo 70 = .ok (.invokestatic 95, 3) := by decide +kernel
theorem dX12_undo_73 : decode cX12_undo 73 = .ok (.ireturn, 1) := by decide +kernel
theorem dX12_layHand_0 : decode cX12_layHand 0 = .ok (.iconst 0, 1) := by decide +kernel
theorem dX12_layHand_1 : decode cX12_layHand 1 = .ok (.istore_n 1, 1) := by decide +kernel
theorem dX12_layHand_2 : decode cX12_layHand 2 = .ok (.iload_n 1, 1) := by decide +kernel
theorem dX12_layHand_3 : decode cX12_layHand 3 = .ok (.bipush 8, 2) := by decide +kernel
theorem dX12_layHand_5 : decode cX12_layHand 5 = .ok (.if_icmp .ge 21, 3) := by decide +kernel
theorem dX12_layHand_8 : decode cX12_layHand 8 = .ok (.aload_n 0, 1) := by decide +kernel
theorem dX12_layHand_9 : decode cX12_layHand 9 = .ok (.getfield 30, 3) := by decide +kernel
theorem dX12_layHand_12 : decode cX12_layHand 12 = .ok (.iload_n 1, 1) := by decide +kernel
theorem dX12_layHand_13 : decode cX12_layHand 13 = .ok (.aload_n 0, 1) := by decide +kernel
theorem dX12_layHand_14 : decode cX12_layHand 14 = .ok (.getfield 7, 3) := by decide +kernel
theorem dX12_layHand_17 : decode cX12_layHand 17 = .ok (.iload_n 1, 1) := by decide +kernel
theorem dX12_layHand_18 : decode cX12_layHand 18 = .ok (.iaload, 1) := by decide +kernel
theorem dX12_layHand_19 : decode cX12_layHand 19 = .ok (.iastore, 1) := by decide +kernel
theorem dX12_layHand_20 : decode cX12_layHand 20 = .ok (.iinc 1 1, 3) := by decide +kernel
theorem dX12_layHand_23 : decode cX12_layHand 23 = .ok (.goto (-21), 3) := by decide +kernel
theorem dX12_layHand_26 : decode cX12_layHand 26 = .ok (.return_, 1) := by decide +kernel
theorem dX12_isPair_0 : decode cX12_isPair 0 = .ok (.iload_n 1, 1) := by decide +kernel
theorem dX12_isPair_1 : decode cX12_isPair 1 = .ok (.ifCond .lt 33, 3) := by decide +kernel
theorem dX12_isPair_4 : decode cX12_isPair 4 = .ok (.iload_n 1, 1) := by decide +kernel
theorem dX12_isPair_5 : decode cX12_isPair 5 = .ok (.bipush 7, 2) := by decide +kernel
theorem dX12_isPair_7 : decode cX12_isPair 7 = .ok (.if_icmp .ge 27, 3) := by decide +kernel
theorem dX12_isPair_10 : decode cX12_isPair 10 = .ok (.aload_n 0, 1) := by decide +kernel
theorem dX12_isPair_11 : decode cX12_isPair 11 = .ok (.getfield 30, 3) := by decide +kernel
theorem dX12_isPair_14 : decode cX12_isPair 14 = .ok (.iload_n 1, 1) := by decide +kernel
theorem dX12_isPair_15 : decode cX12_isPair 15 = .ok (.iaload, 1) := by decide +kernel
theorem dX12_isPair_16 : decode cX12_isPair 16 = .ok (.ifCond .le 18, 3) := by decide +kernel
theorem dX12_isPair_19 : decode cX12_isPair 19 = .ok (.aload_n 0, 1) := by decide +kernel
theorem dX12_isPair_20 : decode cX12_isPair 20 = .ok (.getfield 30, 3) := by decide +kernel
theorem dX12_isPair_23 : decode cX12_isPair 23 = .ok (.iload_n 1, 1) := by decide +kernel
theorem dX12_isPair_24 : decode cX12_isPair 24 = .ok (.iconst 1, 1) := by decide +kernel
theorem dX12_isPair_25 : decode cX12_isPair 25 = .ok (.iadd, 1) := by decide +kernel
theorem dX12_isPair_26 : decode cX12_isPair 26 = .ok (.iaload, 1) := by decide +kernel
theorem dX12_isPair_27 : decode cX12_isPair 27 = .ok (.ifCond .le 7, 3) := by decide +kernel
theorem dX12_isPair_30 : decode cX12_isPair 30 = .ok (.iconst 1, 1) := by decide +kernel
theorem dX12_isPair_31 : decode cX12_isPair 31 = .ok (.goto 4, 3) := by decide +kernel
theorem dX12_isPair_34 : decode cX12_isPair 34 = .ok (.iconst 0, 1) := by decide +kernel
theorem dX12_isPair_35 : decode cX12_isPair 35 = .ok (.ireturn, 1) := by decide +kernel
theorem dX12_isQuarrel_0 : decode cX12_isQuarrel 0 = .ok (.aload_n 0, 1) := by decide +kernel
theorem dX12_isQuarrel_1 : decode cX12_isQuarrel 1 = .ok (.iload_n 1, 1) := by decide +kernel
theorem dX12_isQuarrel_2 : decode cX12_isQuarrel 2 = .ok (.invokevirtual 114, 3) := by decide +kernel
theorem dX12_isQuarrel_5 : decode cX12_isQuarrel 5 = .ok (.ifCond .eq 28, 3) := by decide +kernel
theorem dX12_isQuarrel_8 : decode cX12_isQuarrel 8 = .ok (.aload_n 0, 1) := by decide +kernel
theorem dX12_isQuarrel_9 : decode cX12_isQuarrel 9 = .ok (.aload_n 0, 1) := by decide +kernel
theorem dX12_isQuarrel_10 : decode cX12_isQuarrel 10 = .ok (.getfield 30, 3) := by decide +kernel
theorem dX12_isQuarrel_13 : decode cX12_isQuarrel 13 = .ok (.iload_n 1, 1) := by decide +kernel
theorem dX12_isQuarrel_14 : decode cX12_isQuarrel 14 = .ok (.iaload, 1) := by decide +kernel
theorem dX12_isQuarrel_15 : decode cX12_isQuarrel 15 = .ok (.aload_n 0, 1) := by decide +kernel
theorem dX12_isQuarrel_16 : decode cX12_isQuarrel 16 = .ok (.getfield 30, 3) := by decide +kernel
theorem dX12_isQuarrel_19 : decode cX12_isQuarrel 19 = .ok (.iload_n 1, 1) := by decide +kernel
theorem dX12_isQuarrel_20 : decode cX12_isQuarrel 20 = .ok (.iconst 1, 1) := by decide +kernel
theorem dX12_isQuarrel_21 : decode cX12_isQuarrel 21 = .ok (.iadd, 1) := by decide +kernel
theorem dX12_isQuarrel_22 : decode cX12_isQuarrel 22 = .ok (.iaload, 1) := by decide +kernel
theorem dX12_isQuarrel_23 : decode cX12_isQuarrel 23 = .ok (.invokevirtual 117, 3) := by decide +kernel
theorem dX12_isQuarrel_26 : decode cX12_isQuarrel 26 = .ok (.ifCond .ne 7, 3) := by decide +kernel
theorem dX12_isQuarrel_29 : decode cX12_isQuarrel 29 = .ok (.iconst 1, 1) := by decide +kernel
theorem dX12_isQuarrel_30 : decode cX12_isQuarrel 30 = .ok (.goto 4, 3) := by decide +kernel
theorem dX12_isQuarrel_33 : decode cX12_isQuarrel 33 = .ok (.iconst 0, 1) := by decide +kernel
theorem dX12_isQuarrel_34 : decode cX12_isQuarrel 34 = .ok (.ireturn, 1) := by decide +kernel
theorem dX12_manyQuarrels_0 : decode cX12_manyQuarrels 0 = .ok (.iconst 0, 1) := by decide +kernel
theorem dX12_manyQuarrels_1 : decode cX12_manyQuarrels 1 = .ok (.istore_n 1, 1) := by decide +kernel
theorem dX12_manyQuarrels_2 : decode cX12_manyQuarrels 2 = .ok (.iconst 0, 1) := by decide +kernel
theorem dX12_manyQuarrels_3 : decode cX12_manyQuarrels 3 = .ok (.istore_n 2, 1) := by decide +kernel
theorem dX12_manyQuarrels_4 : decode cX12_manyQuarrels 4 = .ok (.iload_n 2, 1) := by decide +kernel
theorem dX12_manyQuarrels_5 : decode cX12_manyQuarrels 5 = .ok (.bipush 7, 2) := by decide +kernel
theorem dX12_manyQuarrels_7 : decode cX12_manyQuarrels 7 = .ok (.if_icmp .ge 25, 3) := by decide +kernel
theorem dX12_manyQuarrels_10 : decode cX12_manyQuarrels 10 = .ok (.iload_n 1, 1) := by decide +kernel
theorem dX12_manyQuarrels_11 : decode cX12_manyQuarrels 11 = .ok (.aload_n 0, 1) := by decide +kernel
theorem dX12_manyQuarrels_12 : decode cX12_manyQuarrels 12 = .ok (.iload_n 2, 1) := by decide +kernel
theorem dX12_manyQuarrels_13 : decode cX12_manyQuarrels 13 = .ok (.invokevirtual 120, 3) := by decide +kernel
theorem dX12_manyQuarrels_16 : decode cX12_manyQuarrels 16 = .ok (.ifCond .eq 7, 3) := by decide +kernel
theorem dX12_manyQuarrels_19 : decode cX12_manyQuarrels 19 = .ok (.iconst 1, 1) := by decide +kernel
theorem dX12_manyQuarrels_20 : decode cX12_manyQuarrels 20 = .ok (.goto 4, 3) := by decide +kernel
theorem dX12_manyQuarrels_23 : decode cX12_manyQuarrels 23 = .ok (.iconst 0, 1) := by decide +kernel
theorem dX12_manyQuarrels_24 : decode cX12_manyQuarrels 24 = .ok (.iadd, 1) := by decide +kernel
theorem dX12_manyQuarrels_25 : decode cX12_manyQuarrels 25 = .ok (.istore_n 1, 1) := by decide +kernel
theorem dX12_manyQuarrels_26 : decode cX12_manyQuarrels 26 = .ok (.iinc 2 1, 3) := by decide +kernel
theorem dX12_manyQuarrels_29 : decode cX12_manyQuarrels 29 = .ok (.goto (-25), 3) := by decide +kernel
theorem dX12_manyQuarrels_32 : decode cX12_manyQuarrels 32 = .ok (.iload_n 1, 1) := by decide +kernel
theorem dX12_manyQuarrels_33 : decode cX12_manyQuarrels 33 = .ok (.ireturn, 1) := by decide +kernel
theorem dX12_quarrelsIn_0 : decode cX12_quarrelsIn 0 = .ok (.aload_n 0, 1) := by decide +kernel
theorem dX12_quarrelsIn_1 : decode cX12_quarrelsIn 1 = .ok (.iload_n 1, 1) := by decide +kernel
theorem dX12_quarrelsIn_2 : decode cX12_quarrelsIn 2 = .ok (.invokevirtual 120, 3) := by decide +kernel
theorem dX12_quarrelsIn_5 : decode cX12_quarrelsIn 5 = .ok (.ifCond .ne 13, 3) := by decide +kernel
theorem dX12_quarrelsIn_8 : decode cX12_quarrelsIn 8 = .ok (.aload_n 0, 1) := by decide +kernel
theorem dX12_quarrelsIn_9 : decode cX12_quarrelsIn 9 = .ok (.iload_n 1, 1) := by decide +kernel
theorem dX12_quarrelsIn_10 : decode cX12_quarrelsIn 10 = .ok (.iconst 1, 1) := by decide +kernel
theorem dX12_quarrelsIn_11 : decode cX12_quarrelsIn 11 = .ok (.isub, 1) := by decide +kernel
theorem dX12_quarrelsIn_12 : decode cX12_quarrelsIn 12 = .ok (.invokevirtual 120, 3) := by decide +kernel
theorem dX12_quarrelsIn_15 : decode cX12_quarrelsIn 15 = .ok (.ifCond .eq 7, 3) := by decide +kernel
theorem dX12_quarrelsIn_18 : decode cX12_quarrelsIn 18 = .ok (.iconst 1, 1) := by decide +kernel
theorem dX12_quarrelsIn_19 : decode cX12_quarrelsIn 19 = .ok (.goto 4, 3) := by decide +kernel
theorem dX12_quarrelsIn_22 : decode cX12_quarrelsIn 22 = .ok (.iconst 0, 1) := by decide +kernel
theorem dX12_quarrelsIn_23 : decode cX12_quarrelsIn 23 = .ok (.ireturn, 1) := by decide +kernel
theorem dX12_of_0 : decode cX12_of 0 = .ok (.iload_n 1, 1) := by decide +kernel
theorem dX12_of_1 : decode cX12_of 1 = .ok (.invokestatic 108, 3) := by decide +kernel
theorem dX12_of_4 : decode cX12_of 4 = .ok (.ifCond .eq 15, 3) := by decide +kernel
theorem dX12_of_7 : decode cX12_of 7 = .ok (.iload_n 2, 1) := by decide +kernel
theorem dX12_of_8 : decode cX12_of 8 = .ok (.i2l, 1) := by decide +kernel
theorem dX12_of_9 : decode cX12_of 9 = .ok (.lconst 0, 1) := by decide +kernel
theorem dX12_of_10 : decode cX12_of 10 = .ok (.ldc2_w 123, 3) := by decide +kernel
theorem dX12_of_13 : decode cX12_of 13 = .ok (.invokestatic 59, 3) := by decide +kernel
theorem dX12_of_16 : decode cX12_of 16 = .ok (.ifCond .ne 10, 3) := by decide +kernel
theorem dX12_of_19 : decode cX12_of 19 = .ok (.aload_n 0, 1) := by decide +kernel
theorem dX12_of_20 : decode cX12_of 20 = .ok (.bipush (-2), 2) := by decide +kernel
theorem dX12_of_22 : decode cX12_of 22 = .ok (.invokevirtual 87, 3) := by decide +kernel
theorem dX12_of_25 : decode cX12_of 25 = .ok (.ireturn, 1) := by decide +kernel
theorem dX12_of_26 : decode cX12_of 26 = .ok (.aload_n 0, 1) := by decide +kernel
theorem dX12_of_27 : decode cX12_of 27 = .ok (.invokevirtual 125, 3) := by decide +kernel
theorem dX12_of_30 : decode cX12_of 30 = .ok (.aload_n 0, 1) := by decide +kernel
theorem dX12_of_31 : decode cX12_of 31 = .ok (.getfield 30, 3) := by decide +kernel
theorem dX12_of_34 : decode cX12_of 34 = .ok (.iload_n 1, 1) := by decide +kernel
theorem dX12_of_35 : decode cX12_of 35 = .ok (.iaload, 1) := by decide +kernel
theorem dX12_of_36 : decode cX12_of 36 = .ok (.istore_n 3, 1) := by decide +kernel
theorem dX12_of_37 : decode cX12_of 37 = .ok (.iload_n 3, 1) := by decide +kernel
theorem dX12_of_38 : decode cX12_of 38 = .ok (.ifCond .ne 5, 3) := by decide +kernel
theorem dX12_of_41 : decode cX12_of 41 = .ok (.iconst 0, 1) := by decide +kernel
theorem dX12_of_42 : decode cX12_of 42 = .ok (.ireturn, 1) := by decide +kernel
theorem dX12_of_43 : decode cX12_of 43 = .ok (.iload_n 2, 1) := by decide +kernel
theorem dX12_of_44 : decode cX12_of 44 = .ok (.tableswitch 80 1 4 #[32, 39, 53, 66], 32) := by decide +kernel
theorem dX12_of_76 : decode cX12_of 76 = .ok (.aload_n 0, 1) := by decide +kernel
theorem dX12_of_77 : decode cX12_of 77 = .ok (.getfield 23, 3) := by decide +kernel
theorem dX12_of_80 : decode cX12_of 80 = .ok (.iload_n 3, 1) := by decide +kernel
theorem dX12_of_81 : decode cX12_of 81 = .ok (.iaload, 1) := by decide +kernel
theorem dX12_of_82 : decode cX12_of 82 = .ok (.ireturn, 1) := by decide +kernel
theorem dX12_of_83 : decode cX12_of 83 = .ok (.aload_n 0, 1) := by decide +kernel
theorem dX12_of_84 : decode cX12_of 84 = .ok (.iload_n 3, 1) := by decide +kernel
theorem dX12_of_85 : decode cX12_of 85 = .ok (.invokevirtual 73, 3) := by decide +kernel
theorem dX12_of_88 : decode cX12_of 88 = .ok (.ifCond .eq 7, 3) := by decide +kernel
theorem dX12_of_91 : decode cX12_of 91 = .ok (.iconst 1, 1) := by decide +kernel
theorem dX12_of_92 : decode cX12_of 92 = .ok (.goto 4, 3) := by decide +kernel
theorem dX12_of_95 : decode cX12_of 95 = .ok (.iconst 0, 1) := by decide +kernel
theorem dX12_of_96 : decode cX12_of 96 = .ok (.ireturn, 1) := by decide +kernel
theorem dX12_of_97 : decode cX12_of 97 = .ok (.iload_n 3, 1) := by decide +kernel
theorem dX12_of_98 : decode cX12_of 98 = .ok (.invokestatic 77, 3) := by decide +kernel
theorem dX12_of_101 : decode cX12_of 101 = .ok (.ifCond .eq 7, 3) := by decide +kernel
theorem dX12_of_104 : decode cX12_of 104 = .ok (.iconst 1, 1) := by decide +kernel
theorem dX12_of_105 : decode cX12_of 105 = .ok (.goto 4, 3) := by decide +kernel
theorem dX12_of_108 : decode cX12_of 108 = .ok (.iconst 0, 1) := by decide +kernel
theorem dX12_of_109 : decode cX12_of 109 = .ok (.ireturn, 1) := by decide +kernel
theorem dX12_of_110 : decode cX12_of 110 = .ok (.aload_n 0, 1) := by decide +kernel
theorem dX12_of_111 : decode cX12_of 111 = .ok (.iload_n 1, 1) := by decide +kernel
theorem dX12_of_112 : decode cX12_of 112 = .ok (.invokevirtual 128, 3) := by decide +kernel
theorem dX12_of_115 : decode cX12_of 115 = .ok (.ifCond .eq 7, 3) := by decide +kernel
theorem dX12_of_118 : decode cX12_of 118 = .ok (.iconst 1, 1) := by decide +kernel
theorem dX12_of_119 : decode cX12_of 119 = .ok (.goto 4, 3) := by decide +kernel
theorem dX12_of_122 : decode cX12_of 122 = .ok (.iconst 0, 1) := by decide +kernel
theorem dX12_of_123 : decode cX12_of 123 = .ok (.ireturn, 1) := by decide +kernel
theorem dX12_of_124 : decode cX12_of 124 = .ok (.iload_n 3, 1) := by decide +kernel
theorem dX12_of_125 : decode cX12_of 125 = .ok (.ireturn, 1) := by decide +kernel
theorem dX12_may_0 : decode cX12_may 0 = .ok (.iload_n 1, 1) := by decide +kernel
theorem dX12_may_1 : decode cX12_may 1 = .ok (.invokestatic 131, 3) := by decide +kernel
theorem dX12_may_4 : decode cX12_may 4 = .ok (.ifCond .eq 27, 3) := by decide +kernel
theorem dX12_may_7 : decode cX12_may 7 = .ok (.iload_n 2, 1) := by decide +kernel
theorem dX12_may_8 : decode cX12_may 8 = .ok (.invokestatic 131, 3) := by decide +kernel
theorem dX12_may_11 : decode cX12_may 11 = .ok (.ifCond .eq 20, 3) := by decide +kernel
theorem dX12_may_14 : decode cX12_may 14 = .ok (.aload_n 0, 1) := by decide +kernel
theorem dX12_may_15 : decode cX12_may 15 = .ok (.iload_n 1, 1) := by decide +kernel
theorem dX12_may_16 : decode cX12_may 16 = .ok (.iload_n 2, 1) := by decide +kernel
theorem dX12_may_17 : decode cX12_may 17 = .ok (.invokevirtual 117, 3) := by decide +kernel
theorem dX12_may_20 : decode cX12_may 20 = .ok (.ifCond .eq 7, 3) := by decide +kernel
theorem dX12_may_23 : decode cX12_may 23 = .ok (.iconst 1, 1) := by decide +kernel
theorem dX12_may_24 : decode cX12_may 24 = .ok (.goto 13, 3) := by decide +kernel
theorem dX12_may_27 : decode cX12_may 27 = .ok (.iconst 0, 1) := by decide +kernel
theorem dX12_may_28 : decode cX12_may 28 = .ok (.goto 9, 3) := by decide +kernel
theorem dX12_may_31 : decode cX12_may 31 = .ok (.aload_n 0, 1) := by decide +kernel
theorem dX12_may_32 : decode cX12_may 32 = .ok (.bipush (-2), 2) := by decide +kernel
theorem dX12_may_34 : decode cX12_may 34 = .ok (.invokevirtual 87, 3) := by decide +kernel
theorem dX12_may_37 : decode cX12_may 37 = .ok (.ireturn, 1) := by decide +kernel
theorem dX12_quarrels_0 : decode cX12_quarrels 0 = .ok (.iload_n 1, 1) := by decide +kernel
theorem dX12_quarrels_1 : decode cX12_quarrels 1 = .ok (.i2l, 1) := by decide +kernel
theorem dX12_quarrels_2 : decode cX12_quarrels 2 = .ok (.lconst 0, 1) := by decide +kernel
theorem dX12_quarrels_3 : decode cX12_quarrels 3 = .ok (.lconst 1, 1) := by decide +kernel
theorem dX12_quarrels_4 : decode cX12_quarrels 4 = .ok (.invokestatic 59, 3) := by decide +kernel
theorem dX12_quarrels_7 : decode cX12_quarrels 7 = .ok (.ifCond .ne 10, 3) := by decide +kernel
theorem dX12_quarrels_10 : decode cX12_quarrels 10 = .ok (.aload_n 0, 1) := by decide +kernel
theorem dX12_quarrels_11 : decode cX12_quarrels 11 = .ok (.bipush (-2), 2) := by decide +kernel
theorem dX12_quarrels_13 : decode cX12_quarrels 13 = .ok (.invokevirtual 87, 3) := by decide +kernel
theorem dX12_quarrels_16 : decode cX12_quarrels 16 = .ok (.ireturn, 1) := by decide +kernel
theorem dX12_quarrels_17 : decode cX12_quarrels 17 = .ok (.aload_n 0, 1) := by decide +kernel
theorem dX12_quarrels_18 : decode cX12_quarrels 18 = .ok (.invokevirtual 125, 3) := by decide +kernel
theorem dX12_quarrels_21 : decode cX12_quarrels 21 = .ok (.iconst 0, 1) := by decide +kernel
theorem dX12_quarrels_22 : decode cX12_quarrels 22 = .ok (.istore_n 2, 1) := by decide +kernel
theorem dX12_quarrels_23 : decode cX12_quarrels 23 = .ok (.iconst 0, 1) := by decide +kernel
theorem dX12_quarrels_24 : decode cX12_quarrels 24 = .ok (.istore_n 3, 1) := by decide +kernel
theorem dX12_quarrels_25 : decode cX12_quarrels 25 = .ok (.iload_n 3, 1) := by decide +kernel
theorem dX12_quarrels_26 : decode cX12_quarrels 26 = .ok (.bipush 8, 2) := by decide +kernel
theorem dX12_quarrels_28 : decode cX12_quarrels 28 = .ok (.if_icmp .ge 27, 3) := by decide +kernel
theorem dX12_quarrels_31 : decode cX12_quarrels 31 = .ok (.iload_n 2, 1) := by decide +kernel
theorem dX12_quarrels_32 : decode cX12_quarrels 32 = .ok (.aload_n 0, 1) := by decide +kernel
theorem dX12_quarrels_33 : decode cX12_quarrels 33 = .ok (.iload_n 3, 1) := by decide +kernel
theorem dX12_quarrels_34 : decode cX12_quarrels 34 = .ok (.invokevirtual 128, 3) := by decide +kernel
theorem dX12_quarrels_37 : decode cX12_quarrels 37 = .ok (.ifCond .eq 9, 3) := by decide +kernel
theorem dX12_quarrels_40 : decode cX12_quarrels 40 = .ok (.iconst 1, 1) := by decide +kernel
theorem dX12_quarrels_41 : decode cX12_quarrels 41 = .ok (.iload_n 3, 1) := by decide +kernel
theorem dX12_quarrels_42 : decode cX12_quarrels 42 = .ok (.ishl, 1) := by decide +kernel
theorem dX12_quarrels_43 : decode cX12_quarrels 43 = .ok (.goto 4, 3) := by decide +kernel
theorem dX12_quarrels_46 : decode cX12_quarrels 46 = .ok (.iconst 0, 1) := by decide +kernel
theorem dX12_quarrels_47 : decode cX12_quarrels 47 = .ok (.ior, 1) := by decide +kernel
theorem dX12_quarrels_48 : decode cX12_quarrels 48 = .ok (.istore_n 2, 1) := by decide +kernel
theorem dX12_quarrels_49 : decode cX12_quarrels 49 = .ok (.iinc 3 1, 3) := by decide +kernel
theorem dX12_quarrels_52 : decode cX12_quarrels 52 = .ok (.goto (-27), 3) := by decide +kernel
theorem dX12_quarrels_55 : decode cX12_quarrels 55 = .ok (.iload_n 1, 1) := by decide +kernel
theorem dX12_quarrels_56 : decode cX12_quarrels 56 = .ok (.ifCond .ne 7, 3) := by decide +kernel
theorem dX12_quarrels_59 : decode cX12_quarrels 59 = .ok (.iload_n 2, 1) := by decide +kernel
theorem dX12_quarrels_60 : decode cX12_quarrels 60 = .ok (.goto 7, 3) := by decide +kernel
theorem dX12_quarrels_63 : decode cX12_quarrels 63 = .ok (.aload_n 0, 1) := by decide +kernel
theorem dX12_quarrels_64 : decode cX12_quarrels 64 = .ok (.invokevirtual 134, 3) := by decide +kernel
theorem dX12_quarrels_67 : decode cX12_quarrels 67 = .ok (.ireturn, 1) := by decide +kernel
theorem dX12_away_0 : decode cX12_away 0 = .ok (.sipush 255, 3) := by decide +kernel
theorem dX12_away_3 : decode cX12_away 3 = .ok (.istore_n 1, 1) := by decide +kernel
theorem dX12_away_4 : decode cX12_away 4 = .ok (.iconst 0, 1) := by decide +kernel
theorem dX12_away_5 : decode cX12_away 5 = .ok (.istore_n 2, 1) := by decide +kernel
theorem dX12_away_6 : decode cX12_away 6 = .ok (.iload_n 2, 1) := by decide +kernel
theorem dX12_away_7 : decode cX12_away 7 = .ok (.sipush 255, 3) := by decide +kernel
theorem dX12_away_10 : decode cX12_away 10 = .ok (.if_icmp .ge 72, 3) := by decide +kernel
theorem dX12_away_13 : decode cX12_away 13 = .ok (.iconst 0, 1) := by decide +kernel
theorem dX12_away_14 : decode cX12_away 14 = .ok (.istore_n 3, 1) := by decide +kernel
theorem dX12_away_15 : decode cX12_away 15 = .ok (.iload_n 3, 1) := by decide +kernel
theorem dX12_away_16 : decode cX12_away 16 = .ok (.bipush 8, 2) := by decide +kernel
theorem dX12_away_18 : decode cX12_away 18 = .ok (.if_icmp .ge 34, 3) := by decide +kernel
theorem dX12_away_21 : decode cX12_away 21 = .ok (.aload_n 0, 1) := by decide +kernel
theorem dX12_away_22 : decode cX12_away 22 = .ok (.getfield 30, 3) := by decide +kernel
theorem dX12_away_25 : decode cX12_away 25 = .ok (.iload_n 3, 1) := by decide +kernel
theorem dX12_away_26 : decode cX12_away 26 = .ok (.iload_n 2, 1) := by decide +kernel
theorem dX12_away_27 : decode cX12_away 27 = .ok (.iload_n 3, 1) := by decide +kernel
theorem dX12_away_28 : decode cX12_away 28 = .ok (.ishr, 1) := by decide +kernel
theorem dX12_away_29 : decode cX12_away 29 = .ok (.iconst 1, 1) := by decide +kernel
theorem dX12_away_30 : decode cX12_away 30 = .ok (.iand, 1) := by decide +kernel
theorem dX12_away_31 : decode cX12_away 31 = .ok (.iconst 1, 1) := by decide +kernel
theorem dX12_away_32 : decode cX12_away 32 = .ok (.if_icmp .ne 7, 3) := by decide +kernel
theorem dX12_away_35 : decode cX12_away 35 = .ok (.iconst 0, 1) := by decide +kernel
theorem dX12_away_36 : decode cX12_away 36 = .ok (.goto 9, 3) := by decide +kernel
theorem dX12_away_39 : decode cX12_away 39 = .ok (.aload_n 0, 1) := by decide +kernel
theorem dX12_away_40 : decode cX12_away 40 = .ok (.getfield 7, 3) := by decide +kernel
theorem dX12_away_43 : decode cX12_away 43 = .ok (.iload_n 3, 1) := by decide +kernel
theorem dX12_away_44 : decode cX12_away 44 = .ok (.iaload, 1) := by decide +kernel
theorem dX12_away_45 : decode cX12_away 45 = .ok (.iastore, 1) := by decide +kernel
theorem dX12_away_46 : decode cX12_away 46 = .ok (.iinc 3 1, 3) := by decide +kernel
theorem dX12_away_49 : decode cX12_away 49 = .ok (.goto (-34), 3) := by decide +kernel
theorem dX12_away_52 : decode cX12_away 52 = .ok (.iload_n 2, 1) := by decide +kernel
theorem dX12_away_53 : decode cX12_away 53 = .ok (.invokestatic 95, 3) := by decide +kernel
theorem dX12_away_56 : decode cX12_away 56 = .ok (.iload_n 1, 1) := by decide +kernel
theorem dX12_away_57 : decode cX12_away 57 = .ok (.invokestatic 95, 3) := by decide +kernel
theorem dX12_away_60 : decode cX12_away 60 = .ok (.if_icmp .ge 14, 3) := by decide +kernel
theorem dX12_away_63 : decode cX12_away 63 = .ok (.aload_n 0, 1) := by decide +kernel
theorem dX12_away_64 : decode cX12_away 64 = .ok (.invokevirtual 134, 3) := by decide +kernel
theorem dX12_away_67 : decode cX12_away 67 = .ok (.ifCond .ne 7, 3) := by decide +kernel
theorem dX12_away_70 : decode cX12_away 70 = .ok (.iload_n 2, 1) := by decide +kernel
theorem dX12_away_71 : decode cX12_away 71 = .ok (.goto 4, 3) := by decide +kernel
theorem dX12_away_74 : decode cX12_away 74 = .ok (.iload_n 1, 1) := by decide +kernel
theorem dX12_away_75 : decode cX12_away 75 = .ok (.istore_n 1, 1) := by decide +kernel
theorem dX12_away_76 : decode cX12_away 76 = .ok (.iinc 2 1, 3) := by decide +kernel
theorem dX12_away_79 : decode cX12_away 79 = .ok (.goto (-73), 3) := by decide +kernel
theorem dX12_away_82 : decode cX12_away 82 = .ok (.iload_n 1, 1) := by decide +kernel
theorem dX12_away_83 : decode cX12_away 83 = .ok (.ireturn, 1) := by decide +kernel
theorem dX12_nextLived_0 : decode cX12_nextLived 0 = .ok (.iload_n 1, 1) := by decide +kernel
theorem dX12_nextLived_1 : decode cX12_nextLived 1 = .ok (.istore_n 2, 1) := by decide +kernel
theorem dX12_nextLived_2 : decode cX12_nextLived 2 = .ok (.iload_n 2, 1) := by decide +kernel
theorem dX12_nextLived_3 : decode cX12_nextLived 3 = .ok (.bipush 8, 2) := by decide +kernel
theorem dX12_nextLived_5 : decode cX12_nextLived 5 = .ok (.if_icmp .ge 18, 3) := by decide +kernel
theorem dX12_nextLived_8 : decode cX12_nextLived 8 = .ok (.aload_n 0, 1) := by decide +kernel
theorem dX12_nextLived_9 : decode cX12_nextLived 9 = .ok (.getfield 7, 3) := by decide +kernel
theorem dX12_nextLived_12 : decode cX12_nextLived 12 = .ok (.iload_n 2, 1) := by decide +kernel
theorem dX12_nextLived_13 : decode cX12_nextLived 13 = .ok (.iaload, 1) := by decide +kernel
theorem dX12_nextLived_14 : decode cX12_nextLived 14 = .ok (.ifCond .ne 9, 3) := by decide +kernel
theorem dX12_nextLived_17 : decode cX12_nextLived 17 = .ok (.iinc 2 1, 3) := by decide +kernel
theorem dX12_nextLived_20 : decode cX12_nextLived 20 = .ok (.goto (-18), 3) := by decide +kernel
theorem dX12_nextLived_23 : decode cX12_nextLived 23 = .ok (.iload_n 2, 1) := by decide +kernel
theorem dX12_nextLived_24 : decode cX12_nextLived 24 = .ok (.ireturn, 1) := by decide +kernel
theorem dX12_lastLived_0 : decode cX12_lastLived 0 = .ok (.iload_n 1, 1) := by decide +kernel
theorem dX12_lastLived_1 : decode cX12_lastLived 1 = .ok (.istore_n 2, 1) := by decide +kernel
theorem dX12_lastLived_2 : decode cX12_lastLived 2 = .ok (.iload_n 2, 1) := by decide +kernel
theorem dX12_lastLived_3 : decode cX12_lastLived 3 = .ok (.ifCond .lt 18, 3) := by decide +kernel
theorem dX12_lastLived_6 : decode cX12_lastLived 6 = .ok (.aload_n 0, 1) := by decide +kernel
theorem dX12_lastLived_7 : decode cX12_lastLived 7 = .ok (.getfield 7, 3) := by decide +kernel
theorem dX12_lastLived_10 : decode cX12_lastLived 10 = .ok (.iload_n 2, 1) := by decide +kernel
theorem dX12_lastLived_11 : decode cX12_lastLived 11 = .ok (.iaload, 1) := by decide +kernel
theorem dX12_lastLived_12 : decode cX12_lastLived 12 = .ok (.ifCond .ne 9, 3) := by decide +kernel
theorem dX12_lastLived_15 : decode cX12_lastLived 15 = .ok (.iinc 2 (-1), 3) := by decide +kernel
theorem dX12_lastLived_18 : decode cX12_lastLived 18 = .ok (.goto (-16), 3) := by decide +kernel
theorem dX12_lastLived_21 : decode cX12_lastLived 21 = .ok (.iload_n 2, 1) := by decide +kernel
theorem dX12_lastLived_22 : decode cX12_lastLived 22 = .ok (.ireturn, 1) := by decide +kernel
theorem dX12_isTaken_0 : decode cX12_isTaken 0 = .ok (.iconst 0, 1) := by decide +kernel
theorem dX12_isTaken_1 : decode cX12_isTaken 1 = .ok (.istore_n 3, 1) := by decide +kernel
theorem dX12_isTaken_2 : decode cX12_isTaken 2 = .ok (.iconst 0, 1) := by decide +kernel
theorem dX12_isTaken_3 : decode cX12_isTaken 3 = .ok (.istore 4, 2) := by decide +kernel
theorem dX12_isTaken_5 : decode cX12_isTaken 5 = .ok (.iload 4, 2) := by decide +kernel
theorem dX12_isTaken_7 : decode cX12_isTaken 7 = .ok (.iload_n 2, 1) := by decide +kernel
theorem dX12_isTaken_8 : decode cX12_isTaken 8 = .ok (.if_icmp .ge 40, 3) := by decide +kernel
theorem dX12_isTaken_11 : decode cX12_isTaken 11 = .ok (.iload_n 3, 1) := by decide +kernel
theorem dX12_isTaken_12 : decode cX12_isTaken 12 = .ok (.ifCond .ne 24, 3) := by decide +kernel
theorem dX12_isTaken_15 : decode cX12_isTaken 15 = .ok (.aload_n 0, 1) := by decide +kernel
theorem dX12_isTaken_16 : decode cX12_isTaken 16 = .ok (.getfield 7, 3) := by decide +kernel
theorem dX12_isTaken_19 : decode cX12_isTaken 19 = .ok (.iload 4, 2) := by decide +kernel
theorem dX12_isTaken_21 : decode cX12_isTaken 21 = .ok (.iaload, 1) := by decide +kernel
theorem dX12_isTaken_22 : decode cX12_isTaken 22 = .ok (.ifCond .le 18, 3) := by decide +kernel
theorem dX12_isTaken_25 : decode cX12_isTaken 25 = .ok (.aload_n 0, 1) := by decide +kernel
theorem dX12_isTaken_26 : decode cX12_isTaken 26 = .ok (.getfield 33, 3) := by decide +kernel
theorem dX12_isTaken_29 : decode cX12_isTaken 29 = .ok (.iload 4, 2) := by decide +kernel
theorem dX12_isTaken_31 : decode cX12_isTaken 31 = .ok (.iaload, 1) := by decide +kernel
theorem dX12_isTaken_32 : decode cX12_isTaken 32 = .ok (.iload_n 1, 1) := by decide +kernel
theorem dX12_isTaken_33 : decode cX12_isTaken 33 = .ok (.if_icmp .ne 7, 3) := by decide +kernel
theorem dX12_isTaken_36 : decode cX12_isTaken 36 = .ok (.iconst 1, 1) := by decide +kernel
theorem dX12_isTaken_37 : decode cX12_isTaken 37 = .ok (.goto 4, 3) := by decide +kernel
theorem dX12_isTaken_40 : decode cX12_isTaken 40 = .ok (.iconst 0, 1) := by decide +kernel
theorem dX12_isTaken_41 : decode cX12_isTaken 41 = .ok (.istore_n 3, 1) := by decide +kernel
theorem dX12_isTaken_42 : decode cX12_isTaken 42 = .ok (.iinc 4 1, 3) := by decide +kernel
theorem dX12_isTaken_45 : decode cX12_isTaken 45 = .ok (.goto (-40), 3) := by decide +kernel
theorem dX12_isTaken_48 : decode cX12_isTaken 48 = .ok (.iload_n 3, 1) := by decide +kernel
theorem dX12_isTaken_49 : decode cX12_isTaken 49 = .ok (.ireturn, 1) := by decide +kernel
theorem dX12_nextComer_0 : decode cX12_nextComer 0 = .ok (.aload_n 0, 1) := by decide +kernel
theorem dX12_nextComer_1 : decode cX12_nextComer 1 = .ok (.iload_n 2, 1) := by decide +kernel
theorem dX12_nextComer_2 : decode cX12_nextComer 2 = .ok (.iconst 1, 1) := by decide +kernel
theorem dX12_nextComer_3 : decode cX12_nextComer 3 = .ok (.iadd, 1) := by decide +kernel
theorem dX12_nextComer_4 : decode cX12_nextComer 4 = .ok (.invokevirtual 137, 3) := by decide +kernel
theorem dX12_nextComer_7 : decode cX12_nextComer 7 = .ok (.istore_n 3, 1) := by decide +kernel
theorem dX12_nextComer_8 : decode cX12_nextComer 8 = .ok (.iload_n 3, 1) := by decide +kernel
theorem dX12_nextComer_9 : decode cX12_nextComer 9 = .ok (.bipush 8, 2) := by decide +kernel
theorem dX12_nextComer_11 : decode cX12_nextComer 11 = .ok (.if_icmp .ge 59, 3) := by decide +kernel
theorem dX12_nextComer_14 : decode cX12_nextComer 14 = .ok (.aload_n 0, 1) := by decide +kernel
theorem dX12_nextComer_15 : decode cX12_nextComer 15 = .ok (.iload_n 3, 1) := by decide +kernel
theorem dX12_nextComer_16 : decode cX12_nextComer 16 = .ok (.iload_n 1, 1) := by decide +kernel
theorem dX12_nextComer_17 : decode cX12_nextComer 17 = .ok (.invokevirtual 140, 3) := by decide +kernel
theorem dX12_nextComer_20 : decode cX12_nextComer 20 = .ok (.ifCond .ne 39, 3) := by decide +kernel
theorem dX12_nextComer_23 : decode cX12_nextComer 23 = .ok (.iload_n 1, 1) := by decide +kernel
theorem dX12_nextComer_24 : decode cX12_nextComer 24 = .ok (.ifCond .le 46, 3) := by decide +kernel
theorem dX12_nextComer_27 : decode cX12_nextComer 27 = .ok (.aload_n 0, 1) := by decide +kernel
theorem dX12_nextComer_28 : decode cX12_nextComer 28 = .ok (.getfield 30, 3) := by decide +kernel
theorem dX12_nextComer_31 : decode cX12_nextComer 31 = .ok (.iload_n 1, 1) := by decide +kernel
theorem dX12_nextComer_32 : decode cX12_nextComer 32 = .ok (.iconst 1, 1) := by decide +kernel
theorem dX12_nextComer_33 : decode cX12_nextComer 33 = .ok (.isub, 1) := by decide +kernel
theorem dX12_nextComer_34 : decode cX12_nextComer 34 = .ok (.iaload, 1) := by decide +kernel
theorem dX12_nextComer_35 : decode cX12_nextComer 35 = .ok (.ifCond .le 35, 3) := by decide +kernel
theorem dX12_nextComer_38 : decode cX12_nextComer 38 = .ok (.aload_n 0, 1) := by decide +kernel
theorem dX12_nextComer_39 : decode cX12_nextComer 39 = .ok (.aload_n 0, 1) := by decide +kernel
theorem dX12_nextComer_40 : decode cX12_nextComer 40 = .ok (.getfield 30, 3) := by decide +kernel
theorem dX12_nextComer_43 : decode cX12_nextComer 43 = .ok (.iload_n 1, 1) := by decide +kernel
theorem dX12_nextComer_44 : decode cX12_nextComer 44 = .ok (.iconst 1, 1) := by decide +kernel
theorem dX12_nextComer_45 : decode cX12_nextComer 45 = .ok (.isub, 1) := by decide +kernel
theorem dX12_nextComer_46 : decode cX12_nextComer 46 = .ok (.iaload, 1) := by decide +kernel
theorem dX12_nextComer_47 : decode cX12_nextComer 47 = .ok (.aload_n 0, 1) := by decide +kernel
theorem dX12_nextComer_48 : decode cX12_nextComer 48 = .ok (.getfield 7, 3) := by decide +kernel
theorem dX12_nextComer_51 : decode cX12_nextComer 51 = .ok (.iload_n 3, 1) := by decide +kernel
theorem dX12_nextComer_52 : decode cX12_nextComer 52 = .ok (.iaload, 1) := by decide +kernel
theorem dX12_nextComer_53 : decode cX12_nextComer 53 = .ok (.invokevirtual 117, 3) := by decide +kernel
theorem dX12_nextComer_56 : decode cX12_nextComer 56 = .ok (.ifCond .ne 14, 3) := by decide +kernel
theorem dX12_nextComer_59 : decode cX12_nextComer 59 = .ok (.aload_n 0, 1) := by decide +kernel
theorem dX12_nextComer_60 : decode cX12_nextComer 60 = .ok (.iload_n 3, 1) := by decide +kernel
theorem dX12_nextComer_61 : decode cX12_nextComer 61 = .ok (.iconst 1, 1) := by decide +kernel
theorem dX12_nextComer_62 : decode cX12_nextComer 62 = .ok (.iadd, 1) := by decide +kernel
theorem dX12_nextComer_63 : decode cX12_nextComer 63 = .ok (.invokevirtual 137, 3) := by decide +kernel
theorem dX12_nextComer_66 : decode cX12_nextComer 66 = .ok (.istore_n 3, 1) := by decide +kernel
theorem dX12_nextComer_67 : decode cX12_nextComer 67 = .ok (.goto (-59), 3) := by decide +kernel
theorem dX12_nextComer_70 : decode cX12_nextComer 70 = .ok (.iload_n 3, 1) := by decide +kernel
theorem dX12_nextComer_71 : decode cX12_nextComer 71 = .ok (.ireturn, 1) := by decide +kernel
theorem dX12_judgeOrder_0 : decode cX12_judgeOrder 0 = .ok (.iconst 0, 1) := by decide +kernel
theorem dX12_judgeOrder_1 : decode cX12_judgeOrder 1 = .ok (.istore_n 1, 1) := by decide +kernel
theorem dX12_judgeOrder_2 : decode cX12_judgeOrder 2 = .ok (.iconst 0, 1) := by decide +kernel
theorem dX12_judgeOrder_3 : decode cX12_judgeOrder 3 = .ok (.istore_n 2, 1) := by decide +kernel
theorem dX12_judgeOrder_4 : decode cX12_judgeOrder 4 = .ok (.iload_n 2, 1) := by decide +kernel
theorem dX12_judgeOrder_5 : decode cX12_judgeOrder 5 = .ok (.bipush 8, 2) := by decide +kernel
theorem dX12_judgeOrder_7 : decode cX12_judgeOrder 7 = .ok (.if_icmp .ge 64, 3) := by decide +kernel
theorem dX12_judgeOrder_10 : decode cX12_judgeOrder 10 = .ok (.iload_n 1, 1) := by decide +kernel
theorem dX12_judgeOrder_11 : decode cX12_judgeOrder 11 = .ok (.aload_n 0, 1) := by decide +kernel
theorem dX12_judgeOrder_12 : decode cX12_judgeOrder 12 = .ok (.getfield 7, 3) := by decide +kernel
theorem dX12_judgeOrder_15 : decode cX12_judgeOrder 15 = .ok (.iload_n 2, 1) := by decide +kernel
theorem dX12_judgeOrder_16 : decode cX12_judgeOrder 16 = .ok (.iaload, 1) := by decide +kernel
theorem dX12_judgeOrder_17 : decode cX12_judgeOrder 17 = .ok (.ifCond .le 17, 3) := by decide +kernel
theorem dX12_judgeOrder_20 : decode cX12_judgeOrder 20 = .ok (.aload_n 0, 1) := by decide +kernel
theorem dX12_judgeOrder_21 : decode cX12_judgeOrder 21 = .ok (.getfield 33, 3) := by decide +kernel
theorem dX12_judgeOrder_24 : decode cX12_judgeOrder 24 = .ok (.iload_n 2, 1) := by decide +kernel
theorem dX12_judgeOrder_25 : decode cX12_judgeOrder 25 = .ok (.iaload, 1) := by decide +kernel
theorem dX12_judgeOrder_26 : decode cX12_judgeOrder 26 = .ok (.iload_n 2, 1) := by decide +kernel
theorem dX12_judgeOrder_27 : decode cX12_judgeOrder 27 = .ok (.if_icmp .eq 7, 3) := by decide +kernel
theorem dX12_judgeOrder_30 : decode cX12_judgeOrder 30 = .ok (.iconst 1, 1) := by decide +kernel
theorem dX12_judgeOrder_31 : decode cX12_judgeOrder 31 = .ok (.goto 4, 3) := by decide +kernel
theorem dX12_judgeOrder_34 : decode cX12_judgeOrder 34 = .ok (.iconst 0, 1) := by decide +kernel
theorem dX12_judgeOrder_35 : decode cX12_judgeOrder 35 = .ok (.iadd, 1) := by decide +kernel
theorem dX12_judgeOrder_36 : decode cX12_judgeOrder 36 = .ok (.istore_n 1, 1) := by decide +kernel
theorem dX12_judgeOrder_37 : decode cX12_judgeOrder 37 = .ok (.aload_n 0, 1) := by decide +kernel
theorem dX12_judgeOrder_38 : decode cX12_judgeOrder 38 = .ok (.getfield 36, 3) := by decide +kernel
theorem dX12_judgeOrder_41 : decode cX12_judgeOrder 41 = .ok (.iload_n 2, 1) := by decide +kernel
theorem dX12_judgeOrder_42 : decode cX12_judgeOrder 42 = .ok (.aload_n 0, 1) := by decide +kernel
theorem dX12_judgeOrder_43 : decode cX12_judgeOrder 43 = .ok (.getfield 143, 3) := by decide +kernel
theorem dX12_judgeOrder_46 : decode cX12_judgeOrder 46 = .ok (.ifCond .ne 12, 3) := by decide +kernel
theorem dX12_judgeOrder_49 : decode cX12_judgeOrder 49 = .ok (.aload_n 0, 1) := by decide +kernel
theorem dX12_judgeOrder_50 : decode cX12_judgeOrder 50 = .ok (.getfield 30, 3) := by decide +kernel
theorem dX12_judgeOrder_53 : decode cX12_judgeOrder 53 = .ok (.iload_n 2, 1) := by decide +kernel
theorem dX12_judgeOrder_54 : decode cX12_judgeOrder 54 = .ok (.iaload, 1) := by decide +kernel
theorem dX12_judgeOrder_55 : decode cX12_judgeOrder 55 = .ok (.goto 9, 3) := by decide +kernel
theorem dX12_judgeOrder_58 : decode cX12_judgeOrder 58 = .ok (.aload_n 0, 1) := by decide +kernel
theorem dX12_judgeOrder_59 : decode cX12_judgeOrder 59 = .ok (.getfield 36, 3) := by decide +kernel
theorem dX12_judgeOrder_62 : decode cX12_judgeOrder 62 = .ok (.iload_n 2, 1) := by decide +kernel
theorem dX12_judgeOrder_63 : decode cX12_judgeOrder 63 = .ok (.iaload, 1) := by decide +kernel
theorem dX12_judgeOrder_64 : decode cX12_judgeOrder 64 = .ok (.iastore, 1) := by decide +kernel
theorem dX12_judgeOrder_65 : decode cX12_judgeOrder 65 = .ok (.iinc 2 1, 3) := by decide +kernel
theorem dX12_judgeOrder_68 : decode cX12_judgeOrder 68 = .ok (.goto (-64), 3) := by decide +kernel
theorem dX12_judgeOrder_71 : decode cX12_judgeOrder 71 = .ok (.aload_n 0, 1) := by decide +kernel
theorem dX12_judgeOrder_72 : decode cX12_judgeOrder 72 = .ok (.dup, 1) := by decide +kernel
theorem dX12_judgeOrder_73 : decode cX12_judgeOrder 73 = .ok (.getfield 143, 3) := by decide +kernel
theorem dX12_judgeOrder_76 : decode cX12_judgeOrder 76 = .ok (.iconst 1, 1) := by decide +kernel
theorem dX12_judgeOrder_77 : decode cX12_judgeOrder 77 = .ok (.iadd, 1) := by decide +kernel
theorem dX12_judgeOrder_78 : decode cX12_judgeOrder 78 = .ok (.putfield 143, 3) := by decide +kernel
theorem dX12_judgeOrder_81 : decode cX12_judgeOrder 81 = .ok (.aload_n 0, 1) := by decide +kernel
theorem dX12_judgeOrder_82 : decode cX12_judgeOrder 82 = .ok (.iload_n 1, 1) := by decide +kernel
theorem dX12_judgeOrder_83 : decode cX12_judgeOrder 83 = .ok (.aload_n 0, 1) := by decide +kernel
theorem dX12_judgeOrder_84 : decode cX12_judgeOrder 84 = .ok (.getfield 147, 3) := by decide +kernel
theorem dX12_judgeOrder_87 : decode cX12_judgeOrder 87 = .ok (.if_icmp .ge 7, 3) := by decide +kernel
theorem dX12_judgeOrder_90 : decode cX12_judgeOrder 90 = .ok (.iload_n 1, 1) := by decide +kernel
theorem dX12_judgeOrder_91 : decode cX12_judgeOrder 91 = .ok (.goto 7, 3) := by decide +kernel
theorem dX12_judgeOrder_94 : decode cX12_judgeOrder 94 = .ok (.aload_n 0, 1) := by decide +kernel
theorem dX12_judgeOrder_95 : decode cX12_judgeOrder 95 = .ok (.getfield 147, 3) := by decide +kernel
theorem dX12_judgeOrder_98 : decode cX12_judgeOrder 98 = .ok (.putfield 147, 3) := by decide +kernel
theorem dX12_judgeOrder_101 : decode cX12_judgeOrder 101 = .ok (.return_, 1) := by decide +kernel
theorem dX12_layOrders_0 : decode cX12_layOrders 0 = .ok (.aload_n 0, 1) := by decide +kernel
theorem dX12_layOrders_1 : decode cX12_layOrders 1 = .ok (.iconst 0, 1) := by decide +kernel
theorem dX12_layOrders_2 : decode cX12_layOrders 2 = .ok (.putfield 143, 3) := by decide +kernel
theorem dX12_layOrders_5 : decode cX12_layOrders 5 = .ok (.aload_n 0, 1) := by decide +kernel
theorem dX12_layOrders_6 : decode cX12_layOrders 6 = .ok (.ldc 150, 2) := by decide +kernel
theorem dX12_layOrders_8 : decode cX12_layOrders 8 = .ok (.putfield 147, 3) := by decide +kernel
theorem dX12_layOrders_11 : decode cX12_layOrders 11 = .ok (.iconst 0, 1) := by decide +kernel
theorem dX12_layOrders_12 : decode cX12_layOrders 12 = .ok (.istore_n 1, 1) := by decide +kernel
theorem dX12_layOrders_13 : decode cX12_layOrders 13 = .ok (.iload_n 1, 1) := by decide +kernel
theorem dX12_layOrders_14 : decode cX12_layOrders 14 = .ok (.bipush 8, 2) := by decide +kernel
theorem dX12_layOrders_16 : decode cX12_layOrders 16 = .ok (.if_icmp .ge 23, 3) := by decide +kernel
theorem dX12_layOrders_19 : decode cX12_layOrders 19 = .ok (.aload_n 0, 1) := by decide +kernel
theorem dX12_layOrders_20 : decode cX12_layOrders 20 = .ok (.getfield 30, 3) := by decide +kernel
theorem dX12_layOrders_23 : decode cX12_layOrders 23 = .ok (.iload_n 1, 1) := by decide +kernel
theorem dX12_layOrders_24 : decode cX12_layOrders 24 = .ok (.iconst 0, 1) := by decide +kernel
theorem dX12_layOrders_25 : decode cX12_layOrders 25 = .ok (.iastore, 1) := by decide +kernel
theorem dX12_layOrders_26 : decode cX12_layOrders 26 = .ok (.aload_n 0, 1) := by decide +kernel
theorem dX12_layOrders_27 : decode cX12_layOrders 27 = .ok (.getfield 33, 3) := by decide +kernel
theorem dX12_layOrders_30 : decode cX12_layOrders 30 = .ok (.iload_n 1, 1) := by decide +kernel
theorem dX12_layOrders_31 : decode cX12_layOrders 31 = .ok (.iconst (-1), 1) := by decide +kernel
theorem dX12_layOrders_32 : decode cX12_layOrders 32 = .ok (.iastore, 1) := by decide +kernel
theorem dX12_layOrders_33 : decode cX12_layOrders 33 = .ok (.iinc 1 1, 3) := by decide +kernel
theorem dX12_layOrders_36 : decode cX12_layOrders 36 = .ok (.goto (-23), 3) := by decide +kernel
theorem dX12_layOrders_39 : decode cX12_layOrders 39 = .ok (.aload_n 0, 1) := by decide +kernel
theorem dX12_layOrders_40 : decode cX12_layOrders 40 = .ok (.iconst 0, 1) := by decide +kernel
theorem dX12_layOrders_41 : decode cX12_layOrders 41 = .ok (.invokevirtual 137, 3) := by decide +kernel
theorem dX12_layOrders_44 : decode cX12_layOrders 44 = .ok (.istore_n 1, 1) := by decide +kernel
theorem dX12_layOrders_45 : decode cX12_layOrders 45 = .ok (.iload_n 1, 1) := by decide +kernel
theorem dX12_layOrders_46 : decode cX12_layOrders 46 = .ok (.ifCond .lt 117, 3) := by decide +kernel
theorem dX12_layOrders_49 : decode cX12_layOrders 49 = .ok (.iload_n 1, 1) := by decide +kernel
theorem dX12_layOrders_50 : decode cX12_layOrders 50 = .ok (.bipush 8, 2) := by decide +kernel
theorem dX12_layOrders_52 : decode cX12_layOrders 52 = .ok (.if_icmp .ne 17, 3) := by decide +kernel
theorem dX12_layOrders_55 : decode cX12_layOrders 55 = .ok (.aload_n 0, 1) := by decide +kernel
theorem dX12_layOrders_56 : decode cX12_layOrders 56 = .ok (.invokevirtual 151, 3) := by decide +kernel
theorem dX12_layOrders_59 : decode cX12_layOrders 59 = .ok (.aload_n 0, 1) := by decide +kernel
theorem dX12_layOrders_60 : decode cX12_layOrders 60 = .ok (.bipush 7, 2) := by decide +kernel
theorem dX12_layOrders_62 : decode cX12_layOrders 62 = .ok (.invokevirtual 154, 3) := by decide +kernel
theorem dX12_layOrders_65 : decode cX12_layOrders 65 = .ok (.istore_n 1, 1) := by decide +kernel
theorem dX12_layOrders_66 : decode cX12_layOrders 66 = .ok (.goto (-21), 3) := by decide +kernel
theorem dX12_layOrders_69 : decode cX12_layOrders 69 = .ok (.aload_n 0, 1) := by decide +kernel
theorem dX12_layOrders_70 : decode cX12_layOrders 70 = .ok (.getfield 30, 3) := by decide +kernel
theorem dX12_layOrders_73 : decode cX12_layOrders 73 = .ok (.iload_n 1, 1) := by decide +kernel
theorem dX12_layOrders_74 : decode cX12_layOrders 74 = .ok (.iconst 0, 1) := by decide +kernel
theorem dX12_layOrders_75 : decode cX12_layOrders 75 = .ok (.iastore, 1) := by decide +kernel
theorem dX12_layOrders_76 : decode cX12_layOrders 76 = .ok (.aload_n 0, 1) := by decide +kernel
theorem dX12_layOrders_77 : decode cX12_layOrders 77 = .ok (.getfield 33, 3) := by decide +kernel
theorem dX12_layOrders_80 : decode cX12_layOrders 80 = .ok (.iload_n 1, 1) := by decide +kernel
theorem dX12_layOrders_81 : decode cX12_layOrders 81 = .ok (.aload_n 0, 1) := by decide +kernel
theorem dX12_layOrders_82 : decode cX12_layOrders 82 = .ok (.iload_n 1, 1) := by decide +kernel
theorem dX12_layOrders_83 : decode cX12_layOrders 83 = .ok (.aload_n 0, 1) := by decide +kernel
theorem dX12_layOrders_84 : decode cX12_layOrders 84 = .ok (.getfield 33, 3) := by decide +kernel
theorem dX12_layOrders_87 : decode cX12_layOrders 87 = .ok (.iload_n 1, 1) := by decide +kernel
theorem dX12_layOrders_88 : decode cX12_layOrders 88 = .ok (.iaload, 1) := by decide +kernel
theorem dX12_layOrders_89 : decode cX12_layOrders 89 = .ok (.invokevirtual 157, 3) := by decide +kernel
theorem dX12_layOrders_92 : decode cX12_layOrders 92 = .ok (.iastore, 1) := by decide +kernel
theorem dX12_layOrders_93 : decode cX12_layOrders 93 = .ok (.aload_n 0, 1) := by decide +kernel
theorem dX12_layOrders_94 : decode cX12_layOrders 94 = .ok (.getfield 33, 3) := by decide +kernel
theorem dX12_layOrders_97 : decode cX12_layOrders 97 = .ok (.iload_n 1, 1) := by decide +kernel
theorem dX12_layOrders_98 : decode cX12_layOrders 98 = .ok (.iaload, 1) := by decide +kernel
theorem dX12_layOrders_99 : decode cX12_layOrders 99 = .ok (.bipush 8, 2) := by decide +kernel
theorem dX12_layOrders_101 : decode cX12_layOrders 101 = .ok (.if_icmp .ne 21, 3) := by decide +kernel
theorem dX12_layOrders_104 : decode cX12_layOrders 104 = .ok (.aload_n 0, 1) := by decide +kernel
theorem dX12_layOrders_105 : decode cX12_layOrders 105 = .ok (.getfield 33, 3) := by decide +kernel
theorem dX12_layOrders_108 : decode cX12_layOrders 108 = .ok (.iload_n 1, 1) := by decide +kernel
theorem dX12_layOrders_109 : decode cX12_layOrders 109 = .ok (.iconst (-1), 1) := by decide +kernel
theorem dX12_layOrders_110 : decode cX12_layOrders 110 = .ok (.iastore, 1) := by decide +kernel
theorem dX12_layOrders_111 : decode cX12_layOrders 111 = .ok (.aload_n 0, 1) := by decide +kernel
theorem dX12_layOrders_112 : decode cX12_layOrders 112 = .ok (.iload_n 1, 1) := by decide +kernel
theorem dX12_layOrders_113 : decode cX12_layOrders 113 = .ok (.iconst 1, 1) := by decide +kernel
theorem dX12_layOrders_114 : decode cX12_layOrders 114 = .ok (.isub, 1) := by decide +kernel
theorem dX12_layOrders_115 : decode cX12_layOrders 115 = .ok (.invokevirtual 154, 3) := by decide +kernel
theorem dX12_layOrders_118 : decode cX12_layOrders 118 = .ok (.istore_n 1, 1) := by decide +kernel
theorem dX12_layOrders_119 : decode cX12_layOrders 119 = .ok (.goto (-74), 3) := by decide +kernel
theorem dX12_layOrders_122 : decode cX12_layOrders 122 = .ok (.aload_n 0, 1) := by decide +kernel
theorem dX12_layOrders_123 : decode cX12_layOrders 123 = .ok (.getfield 30, 3) := by decide +kernel
theorem dX12_layOrders_126 : decode cX12_layOrders 126 = .ok (.iload_n 1, 1) := by decide +kernel
theorem dX12_layOrders_127 : decode cX12_layOrders 127 = .ok (.aload_n 0, 1) := by decide +kernel
theorem dX12_layOrders_128 : decode cX12_layOrders 128 = .ok (.getfield 7, 3) := by decide +kernel
theorem dX12_layOrders_131 : decode cX12_layOrders 131 = .ok (.aload_n 0, 1) := by decide +kernel
theorem dX12_layOrders_132 : decode cX12_layOrders 132 = .ok (.getfield 33, 3) := by decide +kernel
theorem dX12_layOrders_135 : decode cX12_layOrders 135 = .ok (.iload_n 1, 1) := by decide +kernel
theorem dX12_layOrders_136 : decode cX12_layOrders 136 = .ok (.iaload, 1) := by decide +kernel
theorem dX12_layOrders_137 : decode cX12_layOrders 137 = .ok (.iaload, 1) := by decide +kernel
theorem dX12_layOrders_138 : decode cX12_layOrders 138 = .ok (.iastore, 1) := by decide +kernel
theorem dX12_layOrders_139 : decode cX12_layOrders 139 = .ok (.aload_n 0, 1) := by decide +kernel
theorem dX12_layOrders_140 : decode cX12_layOrders 140 = .ok (.iload_n 1, 1) := by decide +kernel
theorem dX12_layOrders_141 : decode cX12_layOrders 141 = .ok (.iconst 1, 1) := by decide +kernel
theorem dX12_layOrders_142 : decode cX12_layOrders 142 = .ok (.iadd, 1) := by decide +kernel
theorem dX12_layOrders_143 : decode cX12_layOrders 143 = .ok (.invokevirtual 137, 3) := by decide +kernel
theorem dX12_layOrders_146 : decode cX12_layOrders 146 = .ok (.istore_n 1, 1) := by decide +kernel
theorem dX12_layOrders_147 : decode cX12_layOrders 147 = .ok (.iload_n 1, 1) := by decide +kernel
theorem dX12_layOrders_148 : decode cX12_layOrders 148 = .ok (.bipush 8, 2) := by decide +kernel
theorem dX12_layOrders_150 : decode cX12_layOrders 150 = .ok (.if_icmp .ge (-105), 3) := by decide +kernel
theorem dX12_layOrders_153 : decode cX12_layOrders 153 = .ok (.aload_n 0, 1) := by decide +kernel
theorem dX12_layOrders_154 : decode cX12_layOrders 154 = .ok (.getfield 33, 3) := by decide +kernel
theorem dX12_layOrders_157 : decode cX12_layOrders 157 = .ok (.iload_n 1, 1) := by decide +kernel
theorem dX12_layOrders_158 : decode cX12_layOrders 158 = .ok (.iconst (-1), 1) := by decide +kernel
theorem dX12_layOrders_159 : decode cX12_layOrders 159 = .ok (.iastore, 1) := by decide +kernel
theorem dX12_layOrders_160 : decode cX12_layOrders 160 = .ok (.goto (-115), 3) := by decide +kernel
theorem dX12_layOrders_163 : decode cX12_layOrders 163 = .ok (.return_, 1) := by decide +kernel
theorem dX12_orders_0 : decode cX12_orders 0 = .ok (.iload_n 1, 1) := by decide +kernel
theorem dX12_orders_1 : decode cX12_orders 1 = .ok (.i2l, 1) := by decide +kernel
theorem dX12_orders_2 : decode cX12_orders 2 = .ok (.ldc2_w 161, 3) := by decide +kernel
theorem dX12_orders_5 : decode cX12_orders 5 = .ok (.ldc2_w 57, 3) := by decide +kernel
theorem dX12_orders_8 : decode cX12_orders 8 = .ok (.invokestatic 59, 3) := by decide +kernel
theorem dX12_orders_11 : decode cX12_orders 11 = .ok (.ifCond .ne 10, 3) := by decide +kernel
theorem dX12_orders_14 : decode cX12_orders 14 = .ok (.aload_n 0, 1) := by decide +kernel
theorem dX12_orders_15 : decode cX12_orders 15 = .ok (.bipush (-10), 2) := by decide +kernel
theorem dX12_orders_17 : decode cX12_orders 17 = .ok (.invokevirtual 87, 3) := by decide +kernel
theorem dX12_orders_20 : decode cX12_orders 20 = .ok (.ireturn, 1) := by decide +kernel
theorem dX12_orders_21 : decode cX12_orders 21 = .ok (.aload_n 0, 1) := by decide +kernel
theorem dX12_orders_22 : decode cX12_orders 22 = .ok (.invokevirtual 163, 3) := by decide +kernel
theorem dX12_orders_25 : decode cX12_orders 25 = .ok (.iload_n 1, 1) := by decide +kernel
theorem dX12_orders_26 : decode cX12_orders 26 = .ok (.iconst (-1), 1) := by decide +kernel
theorem dX12_orders_27 : decode cX12_orders 27 = .ok (.if_icmp .ne 10, 3) := by decide +kernel
theorem dX12_orders_30 : decode cX12_orders 30 = .ok (.aload_n 0, 1) := by decide +kernel
theorem dX12_orders_31 : decode cX12_orders 31 = .ok (.getfield 143, 3) := by decide +kernel
theorem dX12_orders_34 : decode cX12_orders 34 = .ok (.goto 20, 3) := by decide +kernel
theorem dX12_orders_37 : decode cX12_orders 37 = .ok (.aload_n 0, 1) := by decide +kernel
theorem dX12_orders_38 : decode cX12_orders 38 = .ok (.getfield 143, 3) := by decide +kernel
theorem dX12_orders_41 : decode cX12_orders 41 = .ok (.ifCond .ne 7, 3) := by decide +kernel
theorem dX12_orders_44 : decode cX12_orders 44 = .ok (.iconst (-1), 1) := by decide +kernel
theorem dX12_orders_45 : decode cX12_orders 45 = .ok (.goto 9, 3) := by decide +kernel
theorem dX12_orders_48 : decode cX12_orders 48 = .ok (.aload_n 0, 1) := by decide +kernel
theorem dX12_orders_49 : decode cX12_orders 49 = .ok (.getfield 36, 3) := by decide +kernel
theorem dX12_orders_52 : decode cX12_orders 52 = .ok (.iload_n 1, 1) := by decide +kernel
theorem dX12_orders_53 : decode cX12_orders 53 = .ok (.iaload, 1) := by decide +kernel
theorem dX12_orders_54 : decode cX12_orders 54 = .ok (.ireturn, 1) := by decide +kernel
theorem dX12_moved_0 : decode cX12_moved 0 = .ok (.aload_n 0, 1) := by decide +kernel
theorem dX12_moved_1 : decode cX12_moved 1 = .ok (.invokevirtual 163, 3) := by decide +kernel
theorem dX12_moved_4 : decode cX12_moved 4 = .ok (.aload_n 0, 1) := by decide +kernel
theorem dX12_moved_5 : decode cX12_moved 5 = .ok (.getfield 143, 3) := by decide +kernel
theorem dX12_moved_8 : decode cX12_moved 8 = .ok (.ifCond .ne 7, 3) := by decide +kernel
theorem dX12_moved_11 : decode cX12_moved 11 = .ok (.iconst (-1), 1) := by decide +kernel
theorem dX12_moved_12 : decode cX12_moved 12 = .ok (.goto 7, 3) := by decide +kernel
theorem dX12_moved_15 : decode cX12_moved 15 = .ok (.aload_n 0, 1) := by decide +kernel
theorem dX12_moved_16 : decode cX12_moved 16 = .ok (.getfield 147, 3) := by decide +kernel
theorem dX12_moved_19 : decode cX12_moved 19 = .ok (.ireturn, 1) := by decide +kernel
theorem dX12_areApart_0 : decode cX12_areApart 0 = .ok (.aload_n 0, 1) := by decide +kernel
theorem dX12_areApart_1 : decode cX12_areApart 1 = .ok (.getfield 7, 3) := by decide +kernel
theorem dX12_areApart_4 : decode cX12_areApart 4 = .ok (.iload_n 1, 1) := by decide +kernel
theorem dX12_areApart_5 : decode cX12_areApart 5 = .ok (.iaload, 1) := by decide +kernel
theorem dX12_areApart_6 : decode cX12_areApart 6 = .ok (.aload_n 0, 1) := by decide +kernel
theorem dX12_areApart_7 : decode cX12_areApart 7 = .ok (.getfield 7, 3) := by decide +kernel
theorem dX12_areApart_10 : decode cX12_areApart 10 = .ok (.iload_n 2, 1) := by decide +kernel
theorem dX12_areApart_11 : decode cX12_areApart 11 = .ok (.iaload, 1) := by decide +kernel
theorem dX12_areApart_12 : decode cX12_areApart 12 = .ok (.invokestatic 69, 3) := by decide +kernel
theorem dX12_areApart_15 : decode cX12_areApart 15 = .ok (.ifCond .ne 25, 3) := by decide +kernel
theorem dX12_areApart_18 : decode cX12_areApart 18 = .ok (.aload_n 0, 1) := by decide +kernel
theorem dX12_areApart_19 : decode cX12_areApart 19 = .ok (.getfield 7, 3) := by decide +kernel
theorem dX12_areApart_22 : decode cX12_areApart 22 = .ok (.iload_n 2, 1) := by decide +kernel
theorem dX12_areApart_23 : decode cX12_areApart 23 = .ok (.iaload, 1) := by decide +kernel
theorem dX12_areApart_24 : decode cX12_areApart 24 = .ok (.aload_n 0, 1) := by decide +kernel
theorem dX12_areApart_25 : decode cX12_areApart 25 = .ok (.getfield 7, 3) := by decide +kernel
theorem dX12_areApart_28 : decode cX12_areApart 28 = .ok (.iload_n 1, 1) := by decide +kernel
theorem dX12_areApart_29 : decode cX12_areApart 29 = .ok (.iaload, 1) := by decide +kernel
theorem dX12_areApart_30 : decode cX12_areApart 30 = .ok (.invokestatic 69, 3) := by decide +kernel
theorem dX12_areApart_33 : decode cX12_areApart 33 = .ok (.ifCond .ne 7, 3) := by decide +kernel
theorem dX12_areApart_36 : decode cX12_areApart 36 = .ok (.iconst 1, 1) := by decide +kernel
theorem dX12_areApart_37 : decode cX12_areApart 37 = .ok (.goto 4, 3) := by decide +kernel
theorem dX12_areApart_40 : decode cX12_areApart 40 = .ok (.iconst 0, 1) := by decide +kernel
theorem dX12_areApart_41 : decode cX12_areApart 41 = .ok (.ireturn, 1) := by decide +kernel
theorem dX12_lastsOf_0 : decode cX12_lastsOf 0 = .ok (.iconst 0, 1) := by decide +kernel
theorem dX12_lastsOf_1 : decode cX12_lastsOf 1 = .ok (.istore_n 2, 1) := by decide +kernel
theorem dX12_lastsOf_2 : decode cX12_lastsOf 2 = .ok (.iconst 0, 1) := by decide +kernel
theorem dX12_lastsOf_3 : decode cX12_lastsOf 3 = .ok (.istore_n 3, 1) := by decide +kernel
theorem dX12_lastsOf_4 : decode cX12_lastsOf 4 = .ok (.iload_n 3, 1) := by decide +kernel
theorem dX12_lastsOf_5 : decode cX12_lastsOf 5 = .ok (.bipush 8, 2) := by decide +kernel
theorem dX12_lastsOf_7 : decode cX12_lastsOf 7 = .ok (.if_icmp .ge 108, 3) := by decide +kernel
theorem dX12_lastsOf_10 : decode cX12_lastsOf 10 = .ok (.iload_n 1, 1) := by decide +kernel
theorem dX12_lastsOf_11 : decode cX12_lastsOf 11 = .ok (.iload_n 3, 1) := by decide +kernel
theorem dX12_lastsOf_12 : decode cX12_lastsOf 12 = .ok (.ishr, 1) := by decide +kernel
theorem dX12_lastsOf_13 : decode cX12_lastsOf 13 = .ok (.iconst 1, 1) := by decide +kernel
theorem dX12_lastsOf_14 : decode cX12_lastsOf 14 = .ok (.iand, 1) := by decide +kernel
theorem dX12_lastsOf_15 : decode cX12_lastsOf 15 = .ok (.iconst 1, 1) := by decide +kernel
theorem dX12_lastsOf_16 : decode cX12_lastsOf 16 = .ok (.if_icmp .ne 93, 3) := by decide +kernel
theorem dX12_lastsOf_19 : decode cX12_lastsOf 19 = .ok (.iload_n 1, 1) := by decide +kernel
theorem dX12_lastsOf_20 : decode cX12_lastsOf 20 = .ok (.iconst 1, 1) := by decide +kernel
theorem dX12_lastsOf_21 : decode cX12_lastsOf 21 = .ok (.iload_n 3, 1) := by decide +kernel
theorem dX12_lastsOf_22 : decode cX12_lastsOf 22 = .ok (.ishl, 1) := by decide +kernel
theorem dX12_lastsOf_23 : decode cX12_lastsOf 23 = .ok (.iconst (-1), 1) := by decide +kernel
theorem dX12_lastsOf_24 : decode cX12_lastsOf 24 = .ok (.ixor, 1) := by decide +kernel
theorem dX12_lastsOf_25 : decode cX12_lastsOf 25 = .ok (.iand, 1) := by decide +kernel
theorem dX12_lastsOf_26 : decode cX12_lastsOf 26 = .ok (.istore 4, 2) := by decide +kernel
theorem dX12_lastsOf_28 : decode cX12_lastsOf 28 = .ok (.iload 4, 2) := by decide +kernel
theorem dX12_lastsOf_30 : decode cX12_lastsOf 30 = .ok (.ifCond .ne 7, 3) := by decide +kernel
theorem dX12_lastsOf_33 : decode cX12_lastsOf 33 = .ok (.iconst 1, 1) := by decide +kernel
theorem dX12_lastsOf_34 : decode cX12_lastsOf 34 = .ok (.goto 4, 3) := by decide +kernel
theorem dX12_lastsOf_37 : decode cX12_lastsOf 37 = .ok (.iconst 0, 1) := by decide +kernel
theorem dX12_lastsOf_38 : decode cX12_lastsOf 38 = .ok (.istore 5, 2) := by decide +kernel
theorem dX12_lastsOf_40 : decode cX12_lastsOf 40 = .ok (.iconst 0, 1) := by decide +kernel
theorem dX12_lastsOf_41 : decode cX12_lastsOf 41 = .ok (.istore 6, 2) := by decide +kernel
theorem dX12_lastsOf_43 : decode cX12_lastsOf 43 = .ok (.iload 6, 2) := by decide +kernel
theorem dX12_lastsOf_45 : decode cX12_lastsOf 45 = .ok (.bipush 8, 2) := by decide +kernel
theorem dX12_lastsOf_47 : decode cX12_lastsOf 47 = .ok (.if_icmp .ge 47, 3) := by decide +kernel
theorem dX12_lastsOf_50 : decode cX12_lastsOf 50 = .ok (.iload 5, 2) := by decide +kernel
theorem dX12_lastsOf_52 : decode cX12_lastsOf 52 = .ok (.ifCond .ne 29, 3) := by decide +kernel
theorem dX12_lastsOf_55 : decode cX12_lastsOf 55 = .ok (.aload_n 0, 1) := by decide +kernel
theorem dX12_lastsOf_56 : decode cX12_lastsOf 56 = .ok (.getfield 39, 3) := by decide +kernel
theorem dX12_lastsOf_59 : decode cX12_lastsOf 59 = .ok (.iload 4, 2) := by decide +kernel
theorem dX12_lastsOf_61 : decode cX12_lastsOf 61 = .ok (.iaload, 1) := by decide +kernel
theorem dX12_lastsOf_62 : decode cX12_lastsOf 62 = .ok (.iload 6, 2) := by decide +kernel
theorem dX12_lastsOf_64 : decode cX12_lastsOf 64 = .ok (.ishr, 1) := by decide +kernel
theorem dX12_lastsOf_65 : decode cX12_lastsOf 65 = .ok (.iconst 1, 1) := by decide +kernel
theorem dX12_lastsOf_66 : decode cX12_lastsOf 66 = .ok (.iand, 1) := by decide +kernel
theorem dX12_lastsOf_67 : decode cX12_lastsOf 67 = .ok (.iconst 1, 1) := by decide +kernel
theorem dX12_lastsOf_68 : decode cX12_lastsOf 68 = .ok (.if_icmp .ne 17, 3) := by decide +kernel
theorem dX12_lastsOf_71 : decode cX12_lastsOf 71 = .ok (.aload_n 0, 1) := by decide +kernel
theorem dX12_lastsOf_72 : decode cX12_lastsOf 72 = .ok (.iload_n 3, 1) := by decide +kernel
theorem dX12_lastsOf_73 : decode cX12_lastsOf 73 = .ok (.iload 6, 2) := by decide +kernel
theorem dX12_lastsOf_75 : decode cX12_lastsOf 75 = .ok (.invokevirtual 166, 3) := by decide +kernel
theorem dX12_lastsOf_78 : decode cX12_lastsOf 78 = .ok (.ifCond .eq 7, 3) := by decide +kernel
theorem dX12_lastsOf_81 : decode cX12_lastsOf 81 = .ok (.iconst 1, 1) := by decide +kernel
theorem dX12_lastsOf_82 : decode cX12_lastsOf 82 = .ok (.goto 4, 3) := by decide +kernel
theorem dX12_lastsOf_85 : decode cX12_lastsOf 85 = .ok (.iconst 0, 1) := by decide +kernel
theorem dX12_lastsOf_86 : decode cX12_lastsOf 86 = .ok (.istore 5, 2) := by decide +kernel
theorem dX12_lastsOf_88 : decode cX12_lastsOf 88 = .ok (.iinc 6 1, 3) := by decide +kernel
theorem dX12_lastsOf_91 : decode cX12_lastsOf 91 = .ok (.goto (-48), 3) := by decide +kernel
theorem dX12_lastsOf_94 : decode cX12_lastsOf 94 = .ok (.iload_n 2, 1) := by decide +kernel
theorem dX12_lastsOf_95 : decode cX12_lastsOf 95 = .ok (.iload 5, 2) := by decide +kernel
theorem dX12_lastsOf_97 : decode cX12_lastsOf 97 = .ok (.ifCond .eq 9, 3) := by decide +kernel
theorem dX12_lastsOf_100 : decode cX12_lastsOf 100 = .ok (.iconst 1, 1) := by decide +kernel
theorem dX12_lastsOf_101 : decode cX12_lastsOf 101 = .ok (.iload_n 3, 1) := by decide +kernel
theorem dX12_lastsOf_102 : decode cX12_lastsOf 102 = .ok (.ishl, 1) := by decide +kernel
theorem dX12_lastsOf_103 : decode cX12_lastsOf 103 = .ok (.goto 4, 3) := by decide +kernel
theorem dX12_lastsOf_106 : decode cX12_lastsOf 106 = .ok (.iconst 0, 1) := by decide +kernel
theorem dX12_lastsOf_107 : decode cX12_lastsOf 107 = .ok (.ior, 1) := by decide +kernel
theorem dX12_lastsOf_108 : decode cX12_lastsOf 108 = .ok (.istore_n 2, 1) := by decide +kernel
theorem dX12_lastsOf_109 : decode cX12_lastsOf 109 = .ok (.iinc 3 1, 3) := by decide +kernel
theorem dX12_lastsOf_112 : decode cX12_lastsOf 112 = .ok (.goto (-108), 3) := by decide +kernel
theorem dX12_lastsOf_115 : decode cX12_lastsOf 115 = .ok (.iload_n 2, 1) := by decide +kernel
theorem dX12_lastsOf_116 : decode cX12_lastsOf 116 = .ok (.ireturn, 1) := by decide +kernel
theorem dX12_longest_0 : decode cX12_longest 0 = .ok (.aload_n 0, 1) := by decide +kernel
theorem dX12_longest_1 : decode cX12_longest 1 = .ok (.invokevirtual 91, 3) := by decide +kernel
theorem dX12_longest_4 : decode cX12_longest 4 = .ok (.istore_n 1, 1) := by decide +kernel
theorem dX12_longest_5 : decode cX12_longest 5 = .ok (.iconst 0, 1) := by decide +kernel
theorem dX12_longest_6 : decode cX12_longest 6 = .ok (.istore_n 2, 1) := by decide +kernel
theorem dX12_longest_7 : decode cX12_longest 7 = .ok (.aload_n 0, 1) := by decide +kernel
theorem dX12_longest_8 : decode cX12_longest 8 = .ok (.getfield 39, 3) := by decide +kernel
theorem dX12_longest_11 : decode cX12_longest 11 = .ok (.iconst 0, 1) := by decide +kernel
theorem dX12_longest_12 : decode cX12_longest 12 = .ok (.iconst 0, 1) := by decide +kernel
theorem dX12_longest_13 : decode cX12_longest 13 = .ok (.iastore, 1) := by decide +kernel
theorem dX12_longest_14 : decode cX12_longest 14 = .ok (.iconst 1, 1) := by decide +kernel
theorem dX12_longest_15 : decode cX12_longest 15 = .ok (.istore_n 3, 1) := by decide +kernel
theorem dX12_longest_16 : decode cX12_longest 16 = .ok (.iload_n 3, 1) := by decide +kernel
theorem dX12_longest_17 : decode cX12_longest 17 = .ok (.sipush 256, 3) := by decide +kernel
theorem dX12_longest_20 : decode cX12_longest 20 = .ok (.if_icmp .ge 58, 3) := by decide +kernel
theorem dX12_longest_23 : decode cX12_longest 23 = .ok (.aload_n 0, 1) := by decide +kernel
theorem dX12_longest_24 : decode cX12_longest 24 = .ok (.getfield 39, 3) := by decide +kernel
theorem dX12_longest_27 : decode cX12_longest 27 = .ok (.iload_n 3, 1) := by decide +kernel
theorem dX12_longest_28 : decode cX12_longest 28 = .ok (.iload_n 3, 1) := by decide +kernel
theorem dX12_longest_29 : decode cX12_longest 29 = .ok (.iload_n 1, 1) := by decide +kernel
theorem dX12_longest_30 : decode cX12_longest 30 = .ok (.iconst (-1), 1) := by decide +kernel
theorem dX12_longest_31 : decode cX12_longest 31 = .ok (.ixor, 1) := by decide +kernel
theorem dX12_longest_32 : decode cX12_longest 32 = .ok (.iand, 1) := by decide +kernel
theorem dX12_longest_33 : decode cX12_longest 33 = .ok (.ifCond .ne 11, 3) := by decide +kernel
theorem dX12_longest_36 : decode cX12_longest 36 = .ok (.aload_n 0, 1) := by decide +kernel
theorem dX12_longest_37 : decode cX12_longest 37 = .ok (.iload_n 3, 1) := by decide +kernel
theorem dX12_longest_38 : decode cX12_longest 38 = .ok (.invokevirtual 169, 3) := by decide +kernel
theorem dX12_longest_41 : decode cX12_longest 41 = .ok (.goto 4, 3) := by decide +kernel
theorem dX12_longest_44 : decode cX12_longest 44 = .ok (.iconst 0, 1) := by decide +kernel
theorem dX12_longest_45 : decode cX12_longest 45 = .ok (.iastore, 1) := by decide +kernel
theorem dX12_longest_46 : decode cX12_longest 46 = .ok (.aload_n 0, 1) := by decide +kernel
theorem dX12_longest_47 : decode cX12_longest 47 = .ok (.getfield 39, 3) := by decide +kernel
theorem dX12_longest_50 : decode cX12_longest 50 = .ok (.iload_n 3, 1) := by decide +kernel
theorem dX12_longest_51 : decode cX12_longest 51 = .ok (.iaload, 1) := by decide +kernel
theorem dX12_longest_52 : decode cX12_longest 52 = .ok (.ifCond .eq 18, 3) := by decide +kernel
theorem dX12_longest_55 : decode cX12_longest 55 = .ok (.iload_n 3, 1) := by decide +kernel
theorem dX12_longest_56 : decode cX12_longest 56 = .ok (.invokestatic 95, 3) := by decide +kernel
theorem dX12_longest_59 : decode cX12_longest 59 = .ok (.iload_n 2, 1) := by decide +kernel
theorem dX12_longest_60 : decode cX12_longest 60 = .ok (.if_icmp .le 10, 3) := by decide +kernel
theorem dX12_longest_63 : decode cX12_longest 63 = .ok (.iload_n 3, 1) := by decide +kernel
theorem dX12_longest_64 : decode cX12_longest 64 = .ok (.invokestatic 95, 3) := by decide +kernel
theorem dX12_longest_67 : decode cX12_longest 67 = .ok (.goto 4, 3) := by decide +kernel
theorem dX12_longest_70 : decode cX12_longest 70 = .ok (.iload_n 2, 1) := by decide +kernel
theorem dX12_longest_71 : decode cX12_longest 71 = .ok (.istore_n 2, 1) := by decide +kernel
theorem dX12_longest_72 : decode cX12_longest 72 = .ok (.iinc 3 1, 3) := by decide +kernel
theorem dX12_longest_75 : decode cX12_longest 75 = .ok (.goto (-59), 3) := by decide +kernel
theorem dX12_longest_78 : decode cX12_longest 78 = .ok (.iload_n 2, 1) := by decide +kernel
theorem dX12_longest_79 : decode cX12_longest 79 = .ok (.ireturn, 1) := by decide +kernel
theorem dX12_areAllApart_0 : decode cX12_areAllApart 0 = .ok (.iconst 1, 1) := by decide +kernel
theorem dX12_areAllApart_1 : decode cX12_areAllApart 1 = .ok (.istore_n 2, 1) := by decide +kernel
theorem dX12_areAllApart_2 : decode cX12_areAllApart 2 = .ok (.iconst 0, 1) := by decide +kernel
theorem dX12_areAllApart_3 : decode cX12_areAllApart 3 = .ok (.istore_n 3, 1) := by decide +kernel
theorem dX12_areAllApart_4 : decode cX12_areAllApart 4 = .ok (.iload_n 3, 1) := by decide +kernel
theorem dX12_areAllApart_5 : decode cX12_areAllApart 5 = .ok (.bipush 8, 2) := by decide +kernel
theorem dX12_areAllApart_7 : decode cX12_areAllApart 7 = .ok (.if_icmp .ge 75, 3) := by decide +kernel
theorem dX12_areAllApart_10 : decode cX12_areAllApart 10 = .ok (.iconst 0, 1) := by decide +kernel
theorem dX12_areAllApart_11 : decode cX12_areAllApart 11 = .ok (.istore 4, 2) := by decide +kernel
theorem dX12_areAllApart_13 : decode cX12_areAllApart 13 = .ok (.iload 4, 2) := by decide +kernel
theorem dX12_areAllApart_15 : decode cX12_areAllApart 15 = .ok (.iload_n 3, 1) := by decide +kernel
theorem dX12_areAllApart_16 : decode cX12_areAllApart 16 = .ok (.if_icmp .ge 60, 3) := by decide +kernel
theorem dX12_areAllApart_19 : decode cX12_areAllApart 19 = .ok (.iload_n 1, 1) := by decide +kernel
theorem dX12_areAllApart_20 : decode cX12_areAllApart 20 = .ok (.iload_n 3, 1) := by decide +kernel
theorem dX12_areAllApart_21 : decode cX12_areAllApart 21 = .ok (.ishr, 1) := by decide +kernel
theorem dX12_areAllApart_22 : decode cX12_areAllApart 22 = .ok (.iconst 1, 1) := by decide +kernel
theorem dX12_areAllApart_23 : decode cX12_areAllApart 23 = .ok (.iand, 1) := by decide +kernel
theorem dX12_areAllApart_24 : decode cX12_areAllApart 24 = .ok (.iconst 1, 1) := by decide +kernel
theorem dX12_areAllApart_25 : decode cX12_areAllApart 25 = .ok (.if_icmp .ne 17, 3) := by decide +kernel
theorem dX12_areAllApart_28 : decode cX12_areAllApart 28 = .ok (.iload_n 1, 1) := by decide +kernel
theorem dX12_areAllApart_29 : decode cX12_areAllApart 29 = .ok (.iload 4, 2) := by decide +kernel
theorem dX12_areAllApart_31 : decode cX12_areAllApart 31 = .ok (.ishr, 1) := by decide +kernel
theorem dX12_areAllApart_32 : decode cX12_areAllApart 32 = .ok (.iconst 1, 1) := by decide +kernel
theorem dX12_areAllApart_33 : decode cX12_areAllApart 33 = .ok (.iand, 1) := by decide +kernel
theorem dX12_areAllApart_34 : decode cX12_areAllApart 34 = .ok (.iconst 1, 1) := by decide +kernel
theorem dX12_areAllApart_35 : decode cX12_areAllApart 35 = .ok (.if_icmp .ne 7, 3) := by decide +kernel
theorem dX12_areAllApart_38 : decode cX12_areAllApart 38 = .ok (.iconst 1, 1) := by decide +kernel
theorem dX12_areAllApart_39 : decode cX12_areAllApart 39 = .ok (.goto 4, 3) := by decide +kernel
theorem dX12_areAllApart_42 : decode cX12_areAllApart 42 = .ok (.iconst 0, 1) := by decide +kernel
theorem dX12_areAllApart_43 : decode cX12_areAllApart 43 = .ok (.istore 5, 2) := by decide +kernel
theorem dX12_areAllApart_45 : decode cX12_areAllApart 45 = .ok (.iload_n 2, 1) := by decide +kernel
theorem dX12_areAllApart_46 : decode cX12_areAllApart 46 = .ok (.ifCond .eq 22, 3) := by decide +kernel
theorem dX12_areAllApart_49 : decode cX12_areAllApart 49 = .ok (.iload 5, 2) := by decide +kernel
theorem dX12_areAllApart_51 : decode cX12_areAllApart 51 = .ok (.ifCond .eq 13, 3) := by decide +kernel
theorem dX12_areAllApart_54 : decode cX12_areAllApart 54 = .ok (.aload_n 0, 1) := by decide +kernel
theorem dX12_areAllApart_55 : decode cX12_areAllApart 55 = .ok (.iload_n 3, 1) := by decide +kernel
theorem dX12_areAllApart_56 : decode cX12_areAllApart 56 = .ok (.iload 4, 2) := by decide +kernel
theorem dX12_areAllApart_58 : decode cX12_areAllApart 58 = .ok (.invokevirtual 166, 3) := by decide +kernel
theorem dX12_areAllApart_61 : decode cX12_areAllApart 61 = .ok (.ifCond .eq 7, 3) := by decide +kernel
theorem dX12_areAllApart_64 : decode cX12_areAllApart 64 = .ok (.iconst 1, 1) := by decide +kernel
theorem dX12_areAllApart_65 : decode cX12_areAllApart 65 = .ok (.goto 4, 3) := by decide +kernel
theorem dX12_areAllApart_68 : decode cX12_areAllApart 68 = .ok (.iconst 0, 1) := by decide +kernel
theorem dX12_areAllApart_69 : decode cX12_areAllApart 69 = .ok (.istore_n 2, 1) := by decide +kernel
theorem dX12_areAllApart_70 : decode cX12_areAllApart 70 = .ok (.iinc 4 1, 3) := by decide +kernel
theorem dX12_areAllApart_73 : decode cX12_areAllApart 73 = .ok (.goto (-60), 3) := by decide +kernel
theorem dX12_areAllApart_76 : decode cX12_areAllApart 76 = .ok (.iinc 3 1, 3) := by decide +kernel
theorem dX12_areAllApart_79 : decode cX12_areAllApart 79 = .ok (.goto (-75), 3) := by decide +kernel
theorem dX12_areAllApart_82 : decode cX12_areAllApart 82 = .ok (.iload_n 2, 1) := by decide +kernel
theorem dX12_areAllApart_83 : decode cX12_areAllApart 83 = .ok (.ireturn, 1) := by decide +kernel
theorem dX12_greatest_0 : decode cX12_greatest 0 = .ok (.iload_n 1, 1) := by decide +kernel
theorem dX12_greatest_1 : decode cX12_greatest 1 = .ok (.i2l, 1) := by decide +kernel
theorem dX12_greatest_2 : decode cX12_greatest 2 = .ok (.lconst 0, 1) := by decide +kernel
theorem dX12_greatest_3 : decode cX12_greatest 3 = .ok (.lconst 1, 1) := by decide +kernel
theorem dX12_greatest_4 : decode cX12_greatest 4 = .ok (.invokestatic 59, 3) := by decide +kernel
theorem dX12_greatest_7 : decode cX12_greatest 7 = .ok (.ifCond .ne 10, 3) := by decide +kernel
theorem dX12_greatest_10 : decode cX12_greatest 10 = .ok (.aload_n 0, 1) := by decide +kernel
theorem dX12_greatest_11 : decode cX12_greatest 11 = .ok (.bipush (-2), 2) := by decide +kernel
theorem dX12_greatest_13 : decode cX12_greatest 13 = .ok (.invokevirtual 87, 3) := by decide +kernel
theorem dX12_greatest_16 : decode cX12_greatest 16 = .ok (.ireturn, 1) := by decide +kernel
theorem dX12_greatest_17 : decode cX12_greatest 17 = .ok (.iconst 0, 1) := by decide +kernel
theorem dX12_greatest_18 : decode cX12_greatest 18 = .ok (.istore_n 2, 1) := by decide +kernel
theorem dX12_greatest_19 : decode cX12_greatest 19 = .ok (.iconst 0, 1) := by decide +kernel
theorem dX12_greatest_20 : decode cX12_greatest 20 = .ok (.istore_n 3, 1) := by decide +kernel
theorem dX12_greatest_21 : decode cX12_greatest 21 = .ok (.iload_n 3, 1) := by decide +kernel
theorem dX12_greatest_22 : decode cX12_greatest 22 = .ok (.sipush 256, 3) := by decide +kernel
theorem dX12_greatest_25 : decode cX12_greatest 25 = .ok (.if_icmp .ge 57, 3) := by decide +kernel
theorem dX12_greatest_28 : decode cX12_greatest 28 = .ok (.iload_n 3, 1) := by decide +kernel
theorem dX12_greatest_29 : decode cX12_greatest 29 = .ok (.invokestatic 95, 3) := by decide +kernel
theorem dX12_greatest_32 : decode cX12_greatest 32 = .ok (.iload_n 2, 1) := by decide +kernel
theorem dX12_greatest_33 : decode cX12_greatest 33 = .ok (.invokestatic 95, 3) := by decide +kernel
theorem dX12_greatest_36 : decode cX12_greatest 36 = .ok (.if_icmp .le 18, 3) := by decide +kernel
theorem dX12_greatest_39 : decode cX12_greatest 39 = .ok (.iload_n 3, 1) := by decide +kernel
theorem dX12_greatest_40 : decode cX12_greatest 40 = .ok (.aload_n 0, 1) := by decide +kernel
theorem dX12_greatest_41 : decode cX12_greatest 41 = .ok (.invokevirtual 91, 3) := by decide +kernel
theorem dX12_greatest_44 : decode cX12_greatest 44 = .ok (.iconst (-1), 1) := by decide +kernel
theorem dX12_greatest_45 : decode cX12_greatest 45 = .ok (.ixor, 1) := by decide +kernel
theorem dX12_greatest_46 : decode cX12_greatest 46 = .ok (.iand, 1) := by decide +kernel
theorem dX12_greatest_47 : decode cX12_greatest 47 = .ok (.ifCond .ne 7, 3) := by decide +kernel
theorem dX12_greatest_50 : decode cX12_greatest 50 = .ok (.iconst 1, 1) := by decide +kernel
theorem dX12_greatest_51 : decode cX12_greatest 51 = .ok (.goto 4, 3) := by decide +kernel
theorem dX12_greatest_54 : decode cX12_greatest 54 = .ok (.iconst 0, 1) := by decide +kernel
theorem dX12_greatest_55 : decode cX12_greatest 55 = .ok (.istore 4, 2) := by decide +kernel
theorem dX12_greatest_57 : decode cX12_greatest 57 = .ok (.iload 4, 2) := by decide +kernel
theorem dX12_greatest_59 : decode cX12_greatest 59 = .ok (.ifCond .eq 15, 3) := by decide +kernel
theorem dX12_greatest_62 : decode cX12_greatest 62 = .ok (.aload_n 0, 1) := by decide +kernel
theorem dX12_greatest_63 : decode cX12_greatest 63 = .ok (.iload_n 3, 1) := by decide +kernel
theorem dX12_greatest_64 : decode cX12_greatest 64 = .ok (.invokevirtual 172, 3) := by decide +kernel
theorem dX12_greatest_67 : decode cX12_greatest 67 = .ok (.ifCond .eq 7, 3) := by decide +kernel
theorem dX12_greatest_70 : decode cX12_greatest 70 = .ok (.iload_n 3, 1) := by decide +kernel
theorem dX12_greatest_71 : decode cX12_greatest 71 = .ok (.goto 4, 3) := by decide +kernel
theorem dX12_greatest_74 : decode cX12_greatest 74 = .ok (.iload_n 2, 1) := by decide +kernel
theorem dX12_greatest_75 : decode cX12_greatest 75 = .ok (.istore_n 2, 1) := by decide +kernel
theorem dX12_greatest_76 : decode cX12_greatest 76 = .ok (.iinc 3 1, 3) := by decide +kernel
theorem dX12_greatest_79 : decode cX12_greatest 79 = .ok (.goto (-58), 3) := by decide +kernel
theorem dX12_greatest_82 : decode cX12_greatest 82 = .ok (.iload_n 1, 1) := by decide +kernel
theorem dX12_greatest_83 : decode cX12_greatest 83 = .ok (.ifCond .ne 10, 3) := by decide +kernel
theorem dX12_greatest_86 : decode cX12_greatest 86 = .ok (.iload_n 2, 1) := by decide +kernel
theorem dX12_greatest_87 : decode cX12_greatest 87 = .ok (.invokestatic 95, 3) := by decide +kernel
theorem dX12_greatest_90 : decode cX12_greatest 90 = .ok (.goto 4, 3) := by decide +kernel
theorem dX12_greatest_93 : decode cX12_greatest 93 = .ok (.iload_n 2, 1) := by decide +kernel
theorem dX12_greatest_94 : decode cX12_greatest 94 = .ok (.ireturn, 1) := by decide +kernel
theorem dX12_partsOf_0 : decode cX12_partsOf 0 = .ok (.iconst 0, 1) := by decide +kernel
theorem dX12_partsOf_1 : decode cX12_partsOf 1 = .ok (.istore_n 1, 1) := by decide +kernel
theorem dX12_partsOf_2 : decode cX12_partsOf 2 = .ok (.iconst 1, 1) := by decide +kernel
theorem dX12_partsOf_3 : decode cX12_partsOf 3 = .ok (.istore_n 2, 1) := by decide +kernel
theorem dX12_partsOf_4 : decode cX12_partsOf 4 = .ok (.iload_n 2, 1) := by decide +kernel
theorem dX12_partsOf_5 : decode cX12_partsOf 5 = .ok (.iload_n 0, 1) := by decide +kernel
theorem dX12_partsOf_6 : decode cX12_partsOf 6 = .ok (.if_icmp .ge 23, 3) := by decide +kernel
theorem dX12_partsOf_9 : decode cX12_partsOf 9 = .ok (.iload_n 1, 1) := by decide +kernel
theorem dX12_partsOf_10 : decode cX12_partsOf 10 = .ok (.iload_n 0, 1) := by decide +kernel
theorem dX12_partsOf_11 : decode cX12_partsOf 11 = .ok (.iload_n 2, 1) := by decide +kernel
theorem dX12_partsOf_12 : decode cX12_partsOf 12 = .ok (.irem, 1) := by decide +kernel
theorem dX12_partsOf_13 : decode cX12_partsOf 13 = .ok (.ifCond .ne 7, 3) := by decide +kernel
theorem dX12_partsOf_16 : decode cX12_partsOf 16 = .ok (.iload_n 2, 1) := by decide +kernel
theorem dX12_partsOf_17 : decode cX12_partsOf 17 = .ok (.goto 4, 3) := by decide +kernel
theorem dX12_partsOf_20 : decode cX12_partsOf 20 = .ok (.iconst 0, 1) := by decide +kernel
theorem dX12_partsOf_21 : decode cX12_partsOf 21 = .ok (.iadd, 1) := by decide +kernel
theorem dX12_partsOf_22 : decode cX12_partsOf 22 = .ok (.istore_n 1, 1) := by decide +kernel
theorem dX12_partsOf_23 : decode cX12_partsOf 23 = .ok (.iinc 2 1, 3) := by decide +kernel
theorem dX12_partsOf_26 : decode cX12_partsOf 26 = .ok (.goto (-22), 3) := by decide +kernel
theorem dX12_partsOf_29 : decode cX12_partsOf 29 = .ok (.iload_n 1, 1) := by decide +kernel
theorem dX12_partsOf_30 : decode cX12_partsOf 30 = .ok (.ireturn, 1) := by decide +kernel
theorem dX12_chain_0 : decode cX12_chain 0 = .ok (.iload_n 1, 1) := by decide +kernel
theorem dX12_chain_1 : decode cX12_chain 1 = .ok (.invokestatic 131, 3) := by decide +kernel
theorem dX12_chain_4 : decode cX12_chain 4 = .ok (.ifCond .eq 15, 3) := by decide +kernel
theorem dX12_chain_7 : decode cX12_chain 7 = .ok (.iload_n 2, 1) := by decide +kernel
theorem dX12_chain_8 : decode cX12_chain 8 = .ok (.i2l, 1) := by decide +kernel
theorem dX12_chain_9 : decode cX12_chain 9 = .ok (.lconst 0, 1) := by decide +kernel
theorem dX12_chain_10 : decode cX12_chain 10 = .ok (.ldc2_w 175, 3) := by decide +kernel
theorem dX12_chain_13 : decode cX12_chain 13 = .ok (.invokestatic 59, 3) := by decide +kernel
theorem dX12_chain_16 : decode cX12_chain 16 = .ok (.ifCond .ne 10, 3) := by decide +kernel
theorem dX12_chain_19 : decode cX12_chain 19 = .ok (.aload_n 0, 1) := by decide +kernel
theorem dX12_chain_20 : decode cX12_chain 20 = .ok (.bipush (-2), 2) := by decide +kernel
theorem dX12_chain_22 : decode cX12_chain 22 = .ok (.invokevirtual 87, 3) := by decide +kernel
theorem dX12_chain_25 : decode cX12_chain 25 = .ok (.ireturn, 1) := by decide +kernel
theorem dX12_chain_26 : decode cX12_chain 26 = .ok (.iconst 0, 1) := by decide +kernel
theorem dX12_chain_27 : decode cX12_chain 27 = .ok (.istore_n 3, 1) := by decide +kernel
theorem dX12_chain_28 : decode cX12_chain 28 = .ok (.iconst 0, 1) := by decide +kernel
theorem dX12_chain_29 : decode cX12_chain 29 = .ok (.istore 4, 2) := by decide +kernel
theorem dX12_chain_31 : decode cX12_chain 31 = .ok (.aload_n 0, 1) := by decide +kernel
theorem dX12_chain_32 : decode cX12_chain 32 = .ok (.getfield 42, 3) := by decide +kernel
theorem dX12_chain_35 : decode cX12_chain 35 = .ok (.iconst 0, 1) := by decide +kernel
theorem dX12_chain_36 : decode cX12_chain 36 = .ok (.iload_n 1, 1) := by decide +kernel
theorem dX12_chain_37 : decode cX12_chain 37 = .ok (.iastore, 1) := by decide +kernel
theorem dX12_chain_38 : decode cX12_chain 38 = .ok (.iload_n 3, 1) := by decide +kernel
theorem dX12_chain_39 : decode cX12_chain 39 = .ok (.bipush 20, 2) := by decide +kernel
theorem dX12_chain_41 : decode cX12_chain 41 = .ok (.if_icmp .ge 92, 3) := by decide +kernel
theorem dX12_chain_44 : decode cX12_chain 44 = .ok (.iload 4, 2) := by decide +kernel
theorem dX12_chain_46 : decode cX12_chain 46 = .ok (.ifCond .ne 87, 3) := by decide +kernel
theorem dX12_chain_49 : decode cX12_chain 49 = .ok (.aload_n 0, 1) := by decide +kernel
theorem dX12_chain_50 : decode cX12_chain 50 = .ok (.getfield 42, 3) := by decide +kernel
theorem dX12_chain_53 : decode cX12_chain 53 = .ok (.iload_n 3, 1) := by decide +kernel
theorem dX12_chain_54 : decode cX12_chain 54 = .ok (.iaload, 1) := by decide +kernel
theorem dX12_chain_55 : decode cX12_chain 55 = .ok (.invokestatic 177, 3) := by decide +kernel
theorem dX12_chain_58 : decode cX12_chain 58 = .ok (.istore 5, 2) := by decide +kernel
theorem dX12_chain_60 : decode cX12_chain 60 = .ok (.iinc 3 1, 3) := by decide +kernel
theorem dX12_chain_63 : decode cX12_chain 63 = .ok (.aload_n 0, 1) := by decide +kernel
theorem dX12_chain_64 : decode cX12_chain 64 = .ok (.getfield 42, 3) := by decide +kernel
theorem dX12_chain_67 : decode cX12_chain 67 = .ok (.iload_n 3, 1) := by decide +kernel
theorem dX12_chain_68 : decode cX12_chain 68 = .ok (.iload 5, 2) := by decide +kernel
theorem dX12_chain_70 : decode cX12_chain 70 = .ok (.iastore, 1) := by decide +kernel
theorem dX12_chain_71 : decode cX12_chain 71 = .ok (.iload 5, 2) := by decide +kernel
theorem dX12_chain_73 : decode cX12_chain 73 = .ok (.ifCond .eq 11, 3) := by decide +kernel
theorem dX12_chain_76 : decode cX12_chain 76 = .ok (.iload 5, 2) := by decide +kernel
theorem dX12_chain_78 : decode cX12_chain 78 = .ok (.sipush 9999, 3) := by decide +kernel
theorem dX12_chain_81 : decode cX12_chain 81 = .ok (.if_icmp .le 7, 3) := by decide +kernel
theorem dX12_chain_84 : decode cX12_chain 84 = .ok (.iconst 1, 1) := by decide +kernel
theorem dX12_chain_85 : decode cX12_chain 85 = .ok (.goto 4, 3) := by decide +kernel
theorem dX12_chain_88 : decode cX12_chain 88 = .ok (.iconst 0, 1) := by decide +kernel
theorem dX12_chain_89 : decode cX12_chain 89 = .ok (.istore 4, 2) := by decide +kernel
theorem dX12_chain_91 : decode cX12_chain 91 = .ok (.iconst 0, 1) := by decide +kernel
theorem dX12_chain_92 : decode cX12_chain 92 = .ok (.istore 6, 2) := by decide +kernel
theorem dX12_chain_94 : decode cX12_chain 94 = .ok (.iload 6, 2) := by decide +kernel
theorem dX12_chain_96 : decode cX12_chain 96 = .ok (.iload_n 3, 1) := by decide +kernel
theorem dX12_chain_97 : decode cX12_chain 97 = .ok (.if_icmp .ge 33, 3) := by decide +kernel
theorem dX12_chain_100 : decode cX12_chain 100 = .ok (.iload 4, 2) := by decide +kernel
theorem dX12_chain_102 : decode cX12_chain 102 = .ok (.ifCond .ne 15, 3) := by decide +kernel
theorem dX12_chain_105 : decode cX12_chain 105 = .ok (.aload_n 0, 1) := by decide +kernel
theorem dX12_chain_106 : decode cX12_chain 106 = .ok (.getfield 42, 3) := by decide +kernel
theorem dX12_chain_109 : decode cX12_chain 109 = .ok (.iload 6, 2) := by decide +kernel
theorem dX12_chain_111 : decode cX12_chain 111 = .ok (.iaload, 1) := by decide +kernel
theorem dX12_chain_112 : decode cX12_chain 112 = .ok (.iload 5, 2) := by decide +kernel
theorem dX12_chain_114 : decode cX12_chain 114 = .ok (.if_icmp .ne 7, 3) := by decide +kernel
theorem dX12_chain_117 : decode cX12_chain 117 = .ok (.iconst 1, 1) := by decide +kernel
theorem dX12_chain_118 : decode cX12_chain 118 = .ok (.goto 4, 3) := by decide +kernel
theorem dX12_chain_121 : decode cX12_chain 121 = .ok (.iconst 0, 1) := by decide +kernel
theorem dX12_chain_122 : decode cX12_chain 122 = .ok (.istore 4, 2) := by decide +kernel
theorem dX12_chain_124 : decode cX12_chain 124 = .ok (.iinc 6 1, 3) := by decide +kernel
theorem dX12_chain_127 : decode cX12_chain 127 = .ok (.goto (-33), 3) := by decide +kernel
theorem dX12_chain_130 : decode cX12_chain 130 = .ok (.goto (-92), 3) := by decide +kernel
theorem dX12_chain_133 : decode cX12_chain 133 = .ok (.iload_n 2, 1) := by decide +kernel
theorem dX12_chain_134 : decode cX12_chain 134 = .ok (.ifCond .ne 7, 3) := by decide +kernel
theorem dX12_chain_137 : decode cX12_chain 137 = .ok (.iload_n 3, 1) := by decide +kernel
theorem dX12_chain_138 : decode cX12_chain 138 = .ok (.goto 32, 3) := by decide +kernel
theorem dX12_chain_141 : decode cX12_chain 141 = .ok (.iload_n 2, 1) := by decide +kernel
theorem dX12_chain_142 : decode cX12_chain 142 = .ok (.iconst 1, 1) := by decide +kernel
theorem dX12_chain_143 : decode cX12_chain 143 = .ok (.if_icmp .ne 12, 3) := by decide +kernel
theorem dX12_chain_146 : decode cX12_chain 146 = .ok (.aload_n 0, 1) := by decide +kernel
theorem dX12_chain_147 : decode cX12_chain 147 = .ok (.getfield 42, 3) := by decide +kernel
theorem dX12_chain_150 : decode cX12_chain 150 = .ok (.iload_n 3, 1) := by decide +kernel
theorem dX12_chain_151 : decode cX12_chain 151 = .ok (.iaload, 1) := by decide +kernel
theorem dX12_chain_152 : decode cX12_chain 152 = .ok (.goto 18, 3) := by decide +kernel
theorem dX12_chain_155 : decode cX12_chain 155 = .ok (.aload_n 0, 1) := by decide +kernel
theorem dX12_chain_156 : decode cX12_chain 156 = .ok (.getfield 23, 3) := by decide +kernel
theorem dX12_chain_159 : decode cX12_chain 159 = .ok (.iload_n 1, 1) := by decide +kernel
theorem dX12_chain_160 : decode cX12_chain 160 = .ok (.iaload, 1) := by decide +kernel
theorem dX12_chain_161 : decode cX12_chain 161 = .ok (.iload_n 1, 1) := by decide +kernel
theorem dX12_chain_162 : decode cX12_chain 162 = .ok (.if_icmp .ne 7, 3) := by decide +kernel
theorem dX12_chain_165 : decode cX12_chain 165 = .ok (.iconst 1, 1) := by decide +kernel
theorem dX12_chain_166 : decode cX12_chain 166 = .ok (.goto 4, 3) := by decide +kernel
theorem dX12_chain_169 : decode cX12_chain 169 = .ok (.iconst 0, 1) := by decide +kernel
theorem dX12_chain_170 : decode cX12_chain 170 = .ok (.ireturn, 1) := by decide +kernel
theorem dX12_daysTill_0 : decode cX12_daysTill 0 = .ok (.iload_n 2, 1) := by decide +kernel
theorem dX12_daysTill_1 : decode cX12_daysTill 1 = .ok (.iload_n 1, 1) := by decide +kernel
theorem dX12_daysTill_2 : decode cX12_daysTill 2 = .ok (.if_icmp .gt 9, 3) := by decide +kernel
theorem dX12_daysTill_5 : decode cX12_daysTill 5 = .ok (.iload_n 1, 1) := by decide +kernel
theorem dX12_daysTill_6 : decode cX12_daysTill 6 = .ok (.iload_n 2, 1) := by decide +kernel
theorem dX12_daysTill_7 : decode cX12_daysTill 7 = .ok (.isub, 1) := by decide +kernel
theorem dX12_daysTill_8 : decode cX12_daysTill 8 = .ok (.goto 27, 3) := by decide +kernel
theorem dX12_daysTill_11 : decode cX12_daysTill 11 = .ok (.aload_n 0, 1) := by decide +kernel
theorem dX12_daysTill_12 : decode cX12_daysTill 12 = .ok (.getfield 7, 3) := by decide +kernel
theorem dX12_daysTill_15 : decode cX12_daysTill 15 = .ok (.iload_n 1, 1) := by decide +kernel
theorem dX12_daysTill_16 : decode cX12_daysTill 16 = .ok (.iaload, 1) := by decide +kernel
theorem dX12_daysTill_17 : decode cX12_daysTill 17 = .ok (.iload_n 2, 1) := by decide +kernel
theorem dX12_daysTill_18 : decode cX12_daysTill 18 = .ok (.iload_n 1, 1) := by decide +kernel
theorem dX12_daysTill_19 : decode cX12_daysTill 19 = .ok (.isub, 1) := by decide +kernel
theorem dX12_daysTill_20 : decode cX12_daysTill 20 = .ok (.aload_n 0, 1) := by decide +kernel
theorem dX12_daysTill_21 : decode cX12_daysTill 21 = .ok (.getfield 7, 3) := by decide +kernel
theorem dX12_daysTill_24 : decode cX12_daysTill 24 = .ok (.iload_n 1, 1) := by decide +kernel
theorem dX12_daysTill_25 : decode cX12_daysTill 25 = .ok (.iaload, 1) := by decide +kernel
theorem dX12_daysTill_26 : decode cX12_daysTill 26 = .ok (.irem, 1) := by decide +kernel
theorem dX12_daysTill_27 : decode cX12_daysTill 27 = .ok (.isub, 1) := by decide +kernel
theorem dX12_daysTill_28 : decode cX12_daysTill 28 = .ok (.aload_n 0, 1) := by decide +kernel
theorem dX12_daysTill_29 : decode cX12_daysTill 29 = .ok (.getfield 7, 3) := by decide +kernel
theorem dX12_daysTill_32 : decode cX12_daysTill 32 = .ok (.iload_n 1, 1) := by decide +kernel
theorem dX12_daysTill_33 : decode cX12_daysTill 33 = .ok (.iaload, 1) := by decide +kernel
theorem dX12_daysTill_34 : decode cX12_daysTill 34 = .ok (.irem, 1) := by decide +kernel
theorem dX12_daysTill_35 : decode cX12_daysTill 35 = .ok (.ireturn, 1) := by decide +kernel
theorem dX12_meet_0 : decode cX12_meet 0 = .ok (.iconst 0, 1) := by decide +kernel
theorem dX12_meet_1 : decode cX12_meet 1 = .ok (.istore_n 1, 1) := by decide +kernel
theorem dX12_meet_2 : decode cX12_meet 2 = .ok (.iconst 0, 1) := by decide +kernel
theorem dX12_meet_3 : decode cX12_meet 3 = .ok (.istore_n 2, 1) := by decide +kernel
theorem dX12_meet_4 : decode cX12_meet 4 = .ok (.iload_n 1, 1) := by decide +kernel
theorem dX12_meet_5 : decode cX12_meet 5 = .ok (.ldc 180, 2) := by decide +kernel
theorem dX12_meet_7 : decode cX12_meet 7 = .ok (.if_icmp .ge 85, 3) := by decide +kernel
theorem dX12_meet_10 : decode cX12_meet 10 = .ok (.iload_n 2, 1) := by decide +kernel
theorem dX12_meet_11 : decode cX12_meet 11 = .ok (.ifCond .ne 81, 3) := by decide +kernel
theorem dX12_meet_14 : decode cX12_meet 14 = .ok (.iconst 1, 1) := by decide +kernel
theorem dX12_meet_15 : decode cX12_meet 15 = .ok (.istore_n 2, 1) := by decide +kernel
theorem dX12_meet_16 : decode cX12_meet 16 = .ok (.iconst 0, 1) := by decide +kernel
theorem dX12_meet_17 : decode cX12_meet 17 = .ok (.istore_n 3, 1) := by decide +kernel
theorem dX12_meet_18 : decode cX12_meet 18 = .ok (.iconst 0, 1) := by decide +kernel
theorem dX12_meet_19 : decode cX12_meet 19 = .ok (.istore 4, 2) := by decide +kernel
theorem dX12_meet_21 : decode cX12_meet 21 = .ok (.iload 4, 2) := by decide +kernel
theorem dX12_meet_23 : decode cX12_meet 23 = .ok (.bipush 8, 2) := by decide +kernel
theorem dX12_meet_25 : decode cX12_meet 25 = .ok (.if_icmp .ge 60, 3) := by decide +kernel
theorem dX12_meet_28 : decode cX12_meet 28 = .ok (.aload_n 0, 1) := by decide +kernel
theorem dX12_meet_29 : decode cX12_meet 29 = .ok (.getfield 7, 3) := by decide +kernel
theorem dX12_meet_32 : decode cX12_meet 32 = .ok (.iload 4, 2) := by decide +kernel
theorem dX12_meet_34 : decode cX12_meet 34 = .ok (.iaload, 1) := by decide +kernel
theorem dX12_meet_35 : decode cX12_meet 35 = .ok (.ifCond .le 13, 3) := by decide +kernel
theorem dX12_meet_38 : decode cX12_meet 38 = .ok (.aload_n 0, 1) := by decide +kernel
theorem dX12_meet_39 : decode cX12_meet 39 = .ok (.iload 4, 2) := by decide +kernel
theorem dX12_meet_41 : decode cX12_meet 41 = .ok (.iload_n 1, 1) := by decide +kernel
theorem dX12_meet_42 : decode cX12_meet 42 = .ok (.invokevirtual 181, 3) := by decide +kernel
theorem dX12_meet_45 : decode cX12_meet 45 = .ok (.goto 4, 3) := by decide +kernel
theorem dX12_meet_48 : decode cX12_meet 48 = .ok (.iconst 0, 1) := by decide +kernel
theorem dX12_meet_49 : decode cX12_meet 49 = .ok (.istore 5, 2) := by decide +kernel
theorem dX12_meet_51 : decode cX12_meet 51 = .ok (.iload_n 2, 1) := by decide +kernel
theorem dX12_meet_52 : decode cX12_meet 52 = .ok (.ifCond .eq 12, 3) := by decide +kernel
theorem dX12_meet_55 : decode cX12_meet 55 = .ok (.iload 5, 2) := by decide +kernel
theorem dX12_meet_57 : decode cX12_meet 57 = .ok (.ifCond .ne 7, 3) := by decide +kernel
theorem dX12_meet_60 : decode cX12_meet 60 = .ok (.iconst 1, 1) := by decide +kernel
theorem dX12_meet_61 : decode cX12_meet 61 = .ok (.goto 4, 3) := by decide +kernel
theorem dX12_meet_64 : decode cX12_meet 64 = .ok (.iconst 0, 1) := by decide +kernel
theorem dX12_meet_65 : decode cX12_meet 65 = .ok (.istore_n 2, 1) := by decide +kernel
theorem dX12_meet_66 : decode cX12_meet 66 = .ok (.iload 5, 2) := by decide +kernel
theorem dX12_meet_68 : decode cX12_meet 68 = .ok (.iload_n 3, 1) := by decide +kernel
theorem dX12_meet_69 : decode cX12_meet 69 = .ok (.if_icmp .le 8, 3) := by decide +kernel
theorem dX12_meet_72 : decode cX12_meet 72 = .ok (.iload 5, 2) := by decide +kernel
theorem dX12_meet_74 : decode cX12_meet 74 = .ok (.goto 4, 3) := by decide +kernel
theorem dX12_meet_77 : decode cX12_meet 77 = .ok (.iload_n 3, 1) := by decide +kernel
theorem dX12_meet_78 : decode cX12_meet 78 = .ok (.istore_n 3, 1) := by decide +kernel
theorem dX12_meet_79 : decode cX12_meet 79 = .ok (.iinc 4 1, 3) := by decide +kernel
theorem dX12_meet_82 : decode cX12_meet 82 = .ok (.goto (-61), 3) := by decide +kernel
theorem dX12_meet_85 : decode cX12_meet 85 = .ok (.iload_n 1, 1) := by decide +kernel
theorem dX12_meet_86 : decode cX12_meet 86 = .ok (.iload_n 3, 1) := by decide +kernel
theorem dX12_meet_87 : decode cX12_meet 87 = .ok (.iadd, 1) := by decide +kernel
theorem dX12_meet_88 : decode cX12_meet 88 = .ok (.istore_n 1, 1) := by decide +kernel
theorem dX12_meet_89 : decode cX12_meet 89 = .ok (.goto (-85), 3) := by decide +kernel
theorem dX12_meet_92 : decode cX12_meet 92 = .ok (.iload_n 2, 1) := by decide +kernel
theorem dX12_meet_93 : decode cX12_meet 93 = .ok (.ifCond .eq 13, 3) := by decide +kernel
theorem dX12_meet_96 : decode cX12_meet 96 = .ok (.iload_n 1, 1) := by decide +kernel
theorem dX12_meet_97 : decode cX12_meet 97 = .ok (.ldc 180, 2) := by decide +kernel
theorem dX12_meet_99 : decode cX12_meet 99 = .ok (.if_icmp .ge 7, 3) := by decide +kernel
theorem dX12_meet_102 : decode cX12_meet 102 = .ok (.iload_n 1, 1) := by decide +kernel
theorem dX12_meet_103 : decode cX12_meet 103 = .ok (.goto 4, 3) := by decide +kernel
theorem dX12_meet_106 : decode cX12_meet 106 = .ok (.iconst (-1), 1) := by decide +kernel
theorem dX12_meet_107 : decode cX12_meet 107 = .ok (.ireturn, 1) := by decide +kernel
theorem dX12_next_0 : decode cX12_next 0 = .ok (.iload_n 1, 1) := by decide +kernel
theorem dX12_next_1 : decode cX12_next 1 = .ok (.i2l, 1) := by decide +kernel
theorem dX12_next_2 : decode cX12_next 2 = .ok (.lconst 0, 1) := by decide +kernel
theorem dX12_next_3 : decode cX12_next 3 = .ok (.ldc2_w 184, 3) := by decide +kernel
theorem dX12_next_6 : decode cX12_next 6 = .ok (.invokestatic 59, 3) := by decide +kernel
theorem dX12_next_9 : decode cX12_next 9 = .ok (.ifCond .ne 10, 3) := by decide +kernel
theorem dX12_next_12 : decode cX12_next 12 = .ok (.aload_n 0, 1) := by decide +kernel
theorem dX12_next_13 : decode cX12_next 13 = .ok (.bipush (-2), 2) := by decide +kernel
theorem dX12_next_15 : decode cX12_next 15 = .ok (.invokevirtual 87, 3) := by decide +kernel
theorem dX12_next_18 : decode cX12_next 18 = .ok (.ireturn, 1) := by decide +kernel
theorem dX12_next_19 : decode cX12_next 19 = .ok (.iconst (-1), 1) := by decide +kernel
theorem dX12_next_20 : decode cX12_next 20 = .ok (.istore_n 2, 1) := by decide +kernel
theorem dX12_next_21 : decode cX12_next 21 = .ok (.iconst 0, 1) := by decide +kernel
theorem dX12_next_22 : decode cX12_next 22 = .ok (.istore_n 3, 1) := by decide +kernel
theorem dX12_next_23 : decode cX12_next 23 = .ok (.iload_n 3, 1) := by decide +kernel
theorem dX12_next_24 : decode cX12_next 24 = .ok (.bipush 8, 2) := by decide +kernel
theorem dX12_next_26 : decode cX12_next 26 = .ok (.if_icmp .ge 44, 3) := by decide +kernel
theorem dX12_next_29 : decode cX12_next 29 = .ok (.aload_n 0, 1) := by decide +kernel
theorem dX12_next_30 : decode cX12_next 30 = .ok (.getfield 7, 3) := by decide +kernel
theorem dX12_next_33 : decode cX12_next 33 = .ok (.iload_n 3, 1) := by decide +kernel
theorem dX12_next_34 : decode cX12_next 34 = .ok (.iaload, 1) := by decide +kernel
theorem dX12_next_35 : decode cX12_next 35 = .ok (.ifCond .le 29, 3) := by decide +kernel
theorem dX12_next_38 : decode cX12_next 38 = .ok (.aload_n 0, 1) := by decide +kernel
theorem dX12_next_39 : decode cX12_next 39 = .ok (.iload_n 3, 1) := by decide +kernel
theorem dX12_next_40 : decode cX12_next 40 = .ok (.iload_n 1, 1) := by decide +kernel
theorem dX12_next_41 : decode cX12_next 41 = .ok (.invokevirtual 181, 3) := by decide +kernel
theorem dX12_next_44 : decode cX12_next 44 = .ok (.istore 4, 2) := by decide +kernel
theorem dX12_next_46 : decode cX12_next 46 = .ok (.iload_n 2, 1) := by decide +kernel
theorem dX12_next_47 : decode cX12_next 47 = .ok (.iconst (-1), 1) := by decide +kernel
theorem dX12_next_48 : decode cX12_next 48 = .ok (.if_icmp .eq 9, 3) := by decide +kernel
theorem dX12_next_51 : decode cX12_next 51 = .ok (.iload 4, 2) := by decide +kernel
theorem dX12_next_53 : decode cX12_next 53 = .ok (.iload_n 2, 1) := by decide +kernel
theorem dX12_next_54 : decode cX12_next 54 = .ok (.if_icmp .ge 8, 3) := by decide +kernel
theorem dX12_next_57 : decode cX12_next 57 = .ok (.iload 4, 2) := by decide +kernel
theorem dX12_next_59 : decode cX12_next 59 = .ok (.goto 4, 3) := by decide +kernel
theorem dX12_next_62 : decode cX12_next 62 = .ok (.iload_n 2, 1) := by decide +kernel
theorem dX12_next_63 : decode cX12_next 63 = .ok (.istore_n 2, 1) := by decide +kernel
theorem dX12_next_64 : decode cX12_next 64 = .ok (.iinc 3 1, 3) := by decide +kernel
theorem dX12_next_67 : decode cX12_next 67 = .ok (.goto (-44), 3) := by decide +kernel
theorem dX12_next_70 : decode cX12_next 70 = .ok (.iload_n 2, 1) := by decide +kernel
theorem dX12_next_71 : decode cX12_next 71 = .ok (.ireturn, 1) := by decide +kernel
theorem dX12_reading_0 : decode cX12_reading 0 = .ok (.iload_n 1, 1) := by decide +kernel
theorem dX12_reading_1 : decode cX12_reading 1 = .ok (.invokestatic 131, 3) := by decide +kernel
theorem dX12_reading_4 : decode cX12_reading 4 = .ok (.ifCond .eq 13, 3) := by decide +kernel
theorem dX12_reading_7 : decode cX12_reading 7 = .ok (.iload_n 2, 1) := by decide +kernel
theorem dX12_reading_8 : decode cX12_reading 8 = .ok (.i2l, 1) := by decide +kernel
theorem dX12_reading_9 : decode cX12_reading 9 = .ok (.lconst 0, 1) := by decide +kernel
theorem dX12_reading_10 : decode cX12_reading 10 = .ok (.lconst 1, 1) := by decide +kernel
theorem dX12_reading_11 : decode cX12_reading 11 = .ok (.invokestatic 59, 3) := by decide +kernel
theorem dX12_reading_14 : decode cX12_reading 14 = .ok (.ifCond .ne 10, 3) := by decide +kernel
theorem dX12_reading_17 : decode cX12_reading 17 = .ok (.aload_n 0, 1) := by decide +kernel
theorem dX12_reading_18 : decode cX12_reading 18 = .ok (.bipush (-2), 2) := by decide +kernel
theorem dX12_reading_20 : decode cX12_reading 20 = .ok (.invokevirtual 87, 3) := by decide +kernel
theorem dX12_reading_23 : decode cX12_reading 23 = .ok (.ireturn, 1) := by decide +kernel
theorem dX12_reading_24 : decode cX12_reading 24 = .ok (.aload_n 0, 1) := by decide +kernel
theorem dX12_reading_25 : decode cX12_reading 25 = .ok (.getfield 7, 3) := by decide +kernel
theorem dX12_reading_28 : decode cX12_reading 28 = .ok (.bipush 10, 2) := by decide +kernel
theorem dX12_reading_30 : decode cX12_reading 30 = .ok (.iaload, 1) := by decide +kernel
theorem dX12_reading_31 : decode cX12_reading 31 = .ok (.bipush 8, 2) := by decide +kernel
theorem dX12_reading_33 : decode cX12_reading 33 = .ok (.if_icmp .ne 8, 3) := by decide +kernel
theorem dX12_reading_36 : decode cX12_reading 36 = .ok (.aload_n 0, 1) := by decide +kernel
theorem dX12_reading_37 : decode cX12_reading 37 = .ok (.invokevirtual 186, 3) := by decide +kernel
theorem dX12_reading_40 : decode cX12_reading 40 = .ok (.ireturn, 1) := by decide +kernel
theorem dX12_reading_41 : decode cX12_reading 41 = .ok (.bipush 13, 2) := by decide +kernel
theorem dX12_reading_43 : decode cX12_reading 43 = .ok (.iconst 4, 1) := by decide +kernel
theorem dX12_reading_44 : decode cX12_reading 44 = .ok (.aload_n 0, 1) := by decide +kernel
theorem dX12_reading_45 : decode cX12_reading 45 = .ok (.getfield 7, 3) := by decide +kernel
theorem dX12_reading_48 : decode cX12_reading 48 = .ok (.bipush 10, 2) := by decide +kernel
theorem dX12_reading_50 : decode cX12_reading 50 = .ok (.iaload, 1) := by decide +kernel
theorem dX12_reading_51 : decode cX12_reading 51 = .ok (.imul, 1) := by decide +kernel
theorem dX12_reading_52 : decode cX12_reading 52 = .ok (.iadd, 1) := by decide +kernel
theorem dX12_reading_53 : decode cX12_reading 53 = .ok (.istore_n 3, 1) := by decide +kernel
theorem dX12_reading_54 : decode cX12_reading 54 = .ok (.aload_n 0, 1) := by decide +kernel
theorem dX12_reading_55 : decode cX12_reading 55 = .ok (.getfield 7, 3) := by decide +kernel
theorem dX12_reading_58 : decode cX12_reading 58 = .ok (.iload_n 3, 1) := by decide +kernel
theorem dX12_reading_59 : decode cX12_reading 59 = .ok (.iload_n 1, 1) := by decide +kernel
theorem dX12_reading_60 : decode cX12_reading 60 = .ok (.iastore, 1) := by decide +kernel
theorem dX12_reading_61 : decode cX12_reading 61 = .ok (.aload_n 0, 1) := by decide +kernel
theorem dX12_reading_62 : decode cX12_reading 62 = .ok (.getfield 7, 3) := by decide +kernel
theorem dX12_reading_65 : decode cX12_reading 65 = .ok (.iload_n 3, 1) := by decide +kernel
theorem dX12_reading_66 : decode cX12_reading 66 = .ok (.iconst 1, 1) := by decide +kernel
theorem dX12_reading_67 : decode cX12_reading 67 = .ok (.iadd, 1) := by decide +kernel
theorem dX12_reading_68 : decode cX12_reading 68 = .ok (.iload_n 2, 1) := by decide +kernel
theorem dX12_reading_69 : decode cX12_reading 69 = .ok (.iastore, 1) := by decide +kernel
theorem dX12_reading_70 : decode cX12_reading 70 = .ok (.aload_n 0, 1) := by decide +kernel
theorem dX12_reading_71 : decode cX12_reading 71 = .ok (.getfield 7, 3) := by decide +kernel
theorem dX12_reading_74 : decode cX12_reading 74 = .ok (.iload_n 3, 1) := by decide +kernel
theorem dX12_reading_75 : decode cX12_reading 75 = .ok (.iconst 2, 1) := by decide +kernel
theorem dX12_reading_76 : decode cX12_reading 76 = .ok (.iadd, 1) := by decide +kernel
theorem dX12_reading_77 : decode cX12_reading 77 = .ok (.aload_n 0, 1) := by decide +kernel
theorem dX12_reading_78 : decode cX12_reading 78 = .ok (.getfield 7, 3) := by decide +kernel
theorem dX12_reading_81 : decode cX12_reading 81 = .ok (.bipush 8, 2) := by decide +kernel
theorem dX12_reading_83 : decode cX12_reading 83 = .ok (.iaload, 1) := by decide +kernel
theorem dX12_reading_84 : decode cX12_reading 84 = .ok (.iastore, 1) := by decide +kernel
theorem dX12_reading_85 : decode cX12_reading 85 = .ok (.aload_n 0, 1) := by decide +kernel
theorem dX12_reading_86 : decode cX12_reading 86 = .ok (.getfield 7, 3) := by decide +kernel
theorem dX12_reading_89 : decode cX12_reading 89 = .ok (.iload_n 3, 1) := by decide +kernel
theorem dX12_reading_90 : decode cX12_reading 90 = .ok (.iconst 3, 1) := by decide +kernel
theorem dX12_reading_91 : decode cX12_reading 91 = .ok (.iadd, 1) := by decide +kernel
theorem dX12_reading_92 : decode cX12_reading 92 = .ok (.aload_n 0, 1) := by decide +kernel
theorem dX12_reading_93 : decode cX12_reading 93 = .ok (.getfield 7, 3) := by decide +kernel
theorem dX12_reading_96 : decode cX12_reading 96 = .ok (.bipush 9, 2) := by decide +kernel
theorem dX12_reading_98 : decode cX12_reading 98 = .ok (.iaload, 1) := by decide +kernel
theorem dX12_reading_99 : decode cX12_reading 99 = .ok (.iastore, 1) := by decide +kernel
theorem dX12_reading_100 : decode cX12_reading 100 = .ok (.aload_n 0, 1) := by decide +kernel
theorem dX12_reading_101 : decode cX12_reading 101 = .ok (.getfield 7, 3) := by decide +kernel
theorem dX12_reading_104 : decode cX12_reading 104 = .ok (.bipush 10, 2) := by decide +kernel
theorem dX12_reading_106 : decode cX12_reading 106 = .ok (.dup2, 1) := by decide +kernel
theorem dX12_reading_107 : decode cX12_reading 107 = .ok (.iaload, 1) := by decide +kernel
theorem dX12_reading_108 : decode cX12_reading 108 = .ok (.iconst 1, 1) := by decide +kernel
theorem dX12_reading_109 : decode cX12_reading 109 = .ok (.iadd, 1) := by decide +kernel
theorem dX12_reading_110 : decode cX12_reading 110 = .ok (.iastore, 1) := by decide +kernel
theorem dX12_reading_111 : decode cX12_reading 111 = .ok (.aload_n 0, 1) := by decide +kernel
theorem dX12_reading_112 : decode cX12_reading 112 = .ok (.getfield 7, 3) := by decide +kernel
theorem dX12_reading_115 : decode cX12_reading 115 = .ok (.bipush 10, 2) := by decide +kernel
theorem dX12_reading_117 : decode cX12_reading 117 = .ok (.iaload, 1) := by decide +kernel
theorem dX12_reading_118 : decode cX12_reading 118 = .ok (.ireturn, 1) := by decide +kernel
theorem dX12_canBe_0 : decode cX12_canBe 0 = .ok (.iconst 1, 1) := by decide +kernel
theorem dX12_canBe_1 : decode cX12_canBe 1 = .ok (.istore_n 2, 1) := by decide +kernel
theorem dX12_canBe_2 : decode cX12_canBe 2 = .ok (.iconst 0, 1) := by decide +kernel
theorem dX12_canBe_3 : decode cX12_canBe 3 = .ok (.istore_n 3, 1) := by decide +kernel
theorem dX12_canBe_4 : decode cX12_canBe 4 = .ok (.iload_n 3, 1) := by decide +kernel
theorem dX12_canBe_5 : decode cX12_canBe 5 = .ok (.aload_n 0, 1) := by decide +kernel
theorem dX12_canBe_6 : decode cX12_canBe 6 = .ok (.getfield 7, 3) := by decide +kernel
theorem dX12_canBe_9 : decode cX12_canBe 9 = .ok (.bipush 10, 2) := by decide +kernel
theorem dX12_canBe_11 : decode cX12_canBe 11 = .ok (.iaload, 1) := by decide +kernel
theorem dX12_canBe_12 : decode cX12_canBe 12 = .ok (.if_icmp .ge 78, 3) := by decide +kernel
theorem dX12_canBe_15 : decode cX12_canBe 15 = .ok (.iload_n 2, 1) := by decide +kernel
theorem dX12_canBe_16 : decode cX12_canBe 16 = .ok (.ifCond .eq 74, 3) := by decide +kernel
theorem dX12_canBe_19 : decode cX12_canBe 19 = .ok (.bipush 13, 2) := by decide +kernel
theorem dX12_canBe_21 : decode cX12_canBe 21 = .ok (.iconst 4, 1) := by decide +kernel
theorem dX12_canBe_22 : decode cX12_canBe 22 = .ok (.iload_n 3, 1) := by decide +kernel
theorem dX12_canBe_23 : decode cX12_canBe 23 = .ok (.imul, 1) := by decide +kernel
theorem dX12_canBe_24 : decode cX12_canBe 24 = .ok (.iadd, 1) := by decide +kernel
theorem dX12_canBe_25 : decode cX12_canBe 25 = .ok (.istore 4, 2) := by decide +kernel
theorem dX12_canBe_27 : decode cX12_canBe 27 = .ok (.aload_n 0, 1) := by decide +kernel
theorem dX12_canBe_28 : decode cX12_canBe 28 = .ok (.aload_n 0, 1) := by decide +kernel
theorem dX12_canBe_29 : decode cX12_canBe 29 = .ok (.getfield 7, 3) := by decide +kernel
theorem dX12_canBe_32 : decode cX12_canBe 32 = .ok (.iload 4, 2) := by decide +kernel
theorem dX12_canBe_34 : decode cX12_canBe 34 = .ok (.iconst 2, 1) := by decide +kernel
theorem dX12_canBe_35 : decode cX12_canBe 35 = .ok (.iadd, 1) := by decide +kernel
theorem dX12_canBe_36 : decode cX12_canBe 36 = .ok (.iaload, 1) := by decide +kernel
theorem dX12_canBe_37 : decode cX12_canBe 37 = .ok (.aload_n 0, 1) := by decide +kernel
theorem dX12_canBe_38 : decode cX12_canBe 38 = .ok (.getfield 7, 3) := by decide +kernel
theorem dX12_canBe_41 : decode cX12_canBe 41 = .ok (.iload 4, 2) := by decide +kernel
theorem dX12_canBe_43 : decode cX12_canBe 43 = .ok (.iconst 3, 1) := by decide +kernel
theorem dX12_canBe_44 : decode cX12_canBe 44 = .ok (.iadd, 1) := by decide +kernel
theorem dX12_canBe_45 : decode cX12_canBe 45 = .ok (.iaload, 1) := by decide +kernel
theorem dX12_canBe_46 : decode cX12_canBe 46 = .ok (.iload_n 1, 1) := by decide +kernel
theorem dX12_canBe_47 : decode cX12_canBe 47 = .ok (.aload_n 0, 1) := by decide +kernel
theorem dX12_canBe_48 : decode cX12_canBe 48 = .ok (.getfield 7, 3) := by decide +kernel
theorem dX12_canBe_51 : decode cX12_canBe 51 = .ok (.iload 4, 2) := by decide +kernel
theorem dX12_canBe_53 : decode cX12_canBe 53 = .ok (.iaload, 1) := by decide +kernel
theorem dX12_canBe_54 : decode cX12_canBe 54 = .ok (.invokevirtual 80, 3) := by decide +kernel
theorem dX12_canBe_57 : decode cX12_canBe 57 = .ok (.aload_n 0, 1) := by decide +kernel
theorem dX12_canBe_58 : decode cX12_canBe 58 = .ok (.getfield 7, 3) := by decide +kernel
theorem dX12_canBe_61 : decode cX12_canBe 61 = .ok (.iload 4, 2) := by decide +kernel
theorem dX12_canBe_63 : decode cX12_canBe 63 = .ok (.iconst 1, 1) := by decide +kernel
theorem dX12_canBe_64 : decode cX12_canBe 64 = .ok (.iadd, 1) := by decide +kernel
theorem dX12_canBe_65 : decode cX12_canBe 65 = .ok (.iaload, 1) := by decide +kernel
theorem dX12_canBe_66 : decode cX12_canBe 66 = .ok (.iconst 1, 1) := by decide +kernel
theorem dX12_canBe_67 : decode cX12_canBe 67 = .ok (.if_icmp .ne 7, 3) := by decide +kernel
theorem dX12_canBe_70 : decode cX12_canBe 70 = .ok (.iconst 1, 1) := by decide +kernel
theorem dX12_canBe_71 : decode cX12_canBe 71 = .ok (.goto 4, 3) := by decide +kernel
theorem dX12_canBe_74 : decode cX12_canBe 74 = .ok (.iconst 0, 1) := by decide +kernel
theorem dX12_canBe_75 : decode cX12_canBe 75 = .ok (.if_icmp .ne 7, 3) := by decide +kernel
theorem dX12_canBe_78 : decode cX12_canBe 78 = .ok (.iconst 1, 1) := by decide +kernel
theorem dX12_canBe_79 : decode cX12_canBe 79 = .ok (.goto 4, 3) := by decide +kernel
theorem dX12_canBe_82 : decode cX12_canBe 82 = .ok (.iconst 0, 1) := by decide +kernel
theorem dX12_canBe_83 : decode cX12_canBe 83 = .ok (.istore_n 2, 1) := by decide +kernel
theorem dX12_canBe_84 : decode cX12_canBe 84 = .ok (.iinc 3 1, 3) := by decide +kernel
theorem dX12_canBe_87 : decode cX12_canBe 87 = .ok (.goto (-83), 3) := by decide +kernel
theorem dX12_canBe_90 : decode cX12_canBe 90 = .ok (.iload_n 2, 1) := by decide +kernel
theorem dX12_canBe_91 : decode cX12_canBe 91 = .ok (.ireturn, 1) := by decide +kernel
theorem dX12_layCan_0 : decode cX12_layCan 0 = .ok (.aload_n 0, 1) := by decide +kernel
theorem dX12_layCan_1 : decode cX12_layCan 1 = .ok (.iconst 0, 1) := by decide +kernel
theorem dX12_layCan_2 : decode cX12_layCan 2 = .ok (.putfield 189, 3) := by decide +kernel
theorem dX12_layCan_5 : decode cX12_layCan 5 = .ok (.aload_n 0, 1) := by decide +kernel
theorem dX12_layCan_6 : decode cX12_layCan 6 = .ok (.iconst (-1), 1) := by decide +kernel
theorem dX12_layCan_7 : decode cX12_layCan 7 = .ok (.putfield 192, 3) := by decide +kernel
theorem dX12_layCan_10 : decode cX12_layCan 10 = .ok (.iconst 1, 1) := by decide +kernel
theorem dX12_layCan_11 : decode cX12_layCan 11 = .ok (.istore_n 1, 1) := by decide +kernel
theorem dX12_layCan_12 : decode cX12_layCan 12 = .ok (.iload_n 1, 1) := by decide +kernel
theorem dX12_layCan_13 : decode cX12_layCan 13 = .ok (.sipush 300, 3) := by decide +kernel
theorem dX12_layCan_16 : decode cX12_layCan 16 = .ok (.if_icmp .gt 71, 3) := by decide +kernel
theorem dX12_layCan_19 : decode cX12_layCan 19 = .ok (.aload_n 0, 1) := by decide +kernel
theorem dX12_layCan_20 : decode cX12_layCan 20 = .ok (.getfield 45, 3) := by decide +kernel
theorem dX12_layCan_23 : decode cX12_layCan 23 = .ok (.iload_n 1, 1) := by decide +kernel
theorem dX12_layCan_24 : decode cX12_layCan 24 = .ok (.aload_n 0, 1) := by decide +kernel
theorem dX12_layCan_25 : decode cX12_layCan 25 = .ok (.iload_n 1, 1) := by decide +kernel
theorem dX12_layCan_26 : decode cX12_layCan 26 = .ok (.invokevirtual 195, 3) := by decide +kernel
theorem dX12_layCan_29 : decode cX12_layCan 29 = .ok (.bastore, 1) := by decide +kernel
theorem dX12_layCan_30 : decode cX12_layCan 30 = .ok (.aload_n 0, 1) := by decide +kernel
theorem dX12_layCan_31 : decode cX12_layCan 31 = .ok (.aload_n 0, 1) := by decide +kernel
theorem dX12_layCan_32 : decode cX12_layCan 32 = .ok (.getfield 45, 3) := by decide +kernel
theorem dX12_layCan_35 : decode cX12_layCan 35 = .ok (.iload_n 1, 1) := by decide +kernel
theorem dX12_layCan_36 : decode cX12_layCan 36 = .ok (.baload, 1) := by decide +kernel
theorem dX12_layCan_37 : decode cX12_layCan 37 = .ok (.ifCond .eq 14, 3) := by decide +kernel
theorem dX12_layCan_40 : decode cX12_layCan 40 = .ok (.aload_n 0, 1) := by decide +kernel
theorem dX12_layCan_41 : decode cX12_layCan 41 = .ok (.getfield 189, 3) := by decide +kernel
theorem dX12_layCan_44 : decode cX12_layCan 44 = .ok (.ifCond .ne 7, 3) := by decide +kernel
theorem dX12_layCan_47 : decode cX12_layCan 47 = .ok (.iload_n 1, 1) := by decide +kernel
theorem dX12_layCan_48 : decode cX12_layCan 48 = .ok (.goto 7, 3) := by decide +kernel
theorem dX12_layCan_51 : decode cX12_layCan 51 = .ok (.aload_n 0, 1) := by decide +kernel
theorem dX12_layCan_52 : decode cX12_layCan 52 = .ok (.getfield 192, 3) := by decide +kernel
theorem dX12_layCan_55 : decode cX12_layCan 55 = .ok (.putfield 192, 3) := by decide +kernel
theorem dX12_layCan_58 : decode cX12_layCan 58 = .ok (.aload_n 0, 1) := by decide +kernel
theorem dX12_layCan_59 : decode cX12_layCan 59 = .ok (.dup, 1) := by decide +kernel
theorem dX12_layCan_60 : decode cX12_layCan 60 = .ok (.getfield 189, 3) := by decide +kernel
theorem dX12_layCan_63 : decode cX12_layCan 63 = .ok (.aload_n 0, 1) := by decide +kernel
theorem dX12_layCan_64 : decode cX12_layCan 64 = .ok (.getfield 45, 3) := by decide +kernel
theorem dX12_layCan_67 : decode cX12_layCan 67 = .ok (.iload_n 1, 1) := by decide +kernel
theorem dX12_layCan_68 : decode cX12_layCan 68 = .ok (.baload, 1) := by decide +kernel
theorem dX12_layCan_69 : decode cX12_layCan 69 = .ok (.ifCond .eq 7, 3) := by decide +kernel
theorem dX12_layCan_72 : decode cX12_layCan 72 = .ok (.iconst 1, 1) := by decide +kernel
theorem dX12_layCan_73 : decode cX12_layCan 73 = .ok (.goto 4, 3) := by decide +kernel
theorem dX12_layCan_76 : decode cX12_layCan 76 = .ok (.iconst 0, 1) := by decide +kernel
theorem dX12_layCan_77 : decode cX12_layCan 77 = .ok (.iadd, 1) := by decide +kernel
theorem dX12_layCan_78 : decode cX12_layCan 78 = .ok (.putfield 189, 3) := by decide +kernel
theorem dX12_layCan_81 : decode cX12_layCan 81 = .ok (.iinc 1 1, 3) := by decide +kernel
theorem dX12_layCan_84 : decode cX12_layCan 84 = .ok (.goto (-72), 3) := by decide +kernel
theorem dX12_layCan_87 : decode cX12_layCan 87 = .ok (.return_, 1) := by decide +kernel
theorem dX12_who_0 : decode cX12_who 0 = .ok (.iload_n 1, 1) := by decide +kernel
theorem dX12_who_1 : decode cX12_who 1 = .ok (.i2l, 1) := by decide +kernel
theorem dX12_who_2 : decode cX12_who 2 = .ok (.lconst 0, 1) := by decide +kernel
theorem dX12_who_3 : decode cX12_who 3 = .ok (.lconst 1, 1) := by decide +kernel
theorem dX12_who_4 : decode cX12_who 4 = .ok (.invokestatic 59, 3) := by decide +kernel
theorem dX12_who_7 : decode cX12_who 7 = .ok (.ifCond .ne 10, 3) := by decide +kernel
theorem dX12_who_10 : decode cX12_who 10 = .ok (.aload_n 0, 1) := by decide +kernel
theorem dX12_who_11 : decode cX12_who 11 = .ok (.bipush (-10), 2) := by decide +kernel
theorem dX12_who_13 : decode cX12_who 13 = .ok (.invokevirtual 87, 3) := by decide +kernel
theorem dX12_who_16 : decode cX12_who 16 = .ok (.ireturn, 1) := by decide +kernel
theorem dX12_who_17 : decode cX12_who 17 = .ok (.aload_n 0, 1) := by decide +kernel
theorem dX12_who_18 : decode cX12_who 18 = .ok (.invokevirtual 198, 3) := by decide +kernel
theorem dX12_who_21 : decode cX12_who 21 = .ok (.iload_n 1, 1) := by decide +kernel
theorem dX12_who_22 : decode cX12_who 22 = .ok (.ifCond .ne 10, 3) := by decide +kernel
theorem dX12_who_25 : decode cX12_who 25 = .ok (.aload_n 0, 1) := by decide +kernel
theorem dX12_who_26 : decode cX12_who 26 = .ok (.getfield 189, 3) := by decide +kernel
theorem dX12_who_29 : decode cX12_who 29 = .ok (.goto 7, 3) := by decide +kernel
theorem dX12_who_32 : decode cX12_who 32 = .ok (.aload_n 0, 1) := by decide +kernel
theorem dX12_who_33 : decode cX12_who 33 = .ok (.getfield 192, 3) := by decide +kernel
theorem dX12_who_36 : decode cX12_who 36 = .ok (.ireturn, 1) := by decide +kernel
theorem dX12_greaterPart_0 : decode cX12_greaterPart 0 = .ok (.iconst 0, 1) := by decide +kernel
theorem dX12_greaterPart_1 : decode cX12_greaterPart 1 = .ok (.istore_n 2, 1) := by decide +kernel
theorem dX12_greaterPart_2 : decode cX12_greaterPart 2 = .ok (.iconst 1, 1) := by decide +kernel
theorem dX12_greaterPart_3 : decode cX12_greaterPart 3 = .ok (.istore_n 3, 1) := by decide +kernel
theorem dX12_greaterPart_4 : decode cX12_greaterPart 4 = .ok (.iload_n 3, 1) := by decide +kernel
theorem dX12_greaterPart_5 : decode cX12_greaterPart 5 = .ok (.sipush 300, 3) := by decide +kernel
theorem dX12_greaterPart_8 : decode cX12_greaterPart 8 = .ok (.if_icmp .gt 35, 3) := by decide +kernel
theorem dX12_greaterPart_11 : decode cX12_greaterPart 11 = .ok (.iload_n 2, 1) := by decide +kernel
theorem dX12_greaterPart_12 : decode cX12_greaterPart 12 = .ok (.aload_n 0, 1) := by decide +kernel
theorem dX12_greaterPart_13 : decode cX12_greaterPart 13 = .ok (.getfield 45, 3) := by decide +kernel
theorem dX12_greaterPart_16 : decode cX12_greaterPart 16 = .ok (.iload_n 3, 1) := by decide +kernel
theorem dX12_greaterPart_17 : decode cX12_greaterPart 17 = .ok (.baload, 1) := by decide +kernel
theorem dX12_greaterPart_18 : decode cX12_greaterPart 18 = .ok (.ifCond .eq 16, 3) := by decide +kernel
theorem dX12_greaterPart_21 : decode cX12_greaterPart 21 = .ok (.aload_n 0, 1) := by decide +kernel
theorem dX12_greaterPart_22 : decode cX12_greaterPart 22 = .ok (.iload_n 3, 1) := by decide +kernel
theorem dX12_greaterPart_23 : decode cX12_greaterPart 23 = .ok (.iload_n 1, 1) := by decide +kernel
theorem dX12_greaterPart_24 : decode cX12_greaterPart 24 = .ok (.invokevirtual 117, 3) := by decide +kernel
theorem dX12_greaterPart_27 : decode cX12_greaterPart 27 = .ok (.ifCond .eq 7, 3) := by decide +kernel
theorem dX12_greaterPart_30 : decode cX12_greaterPart 30 = .ok (.iconst 1, 1) := by decide +kernel
theorem dX12_greaterPart_31 : decode cX12_greaterPart 31 = .ok (.goto 4, 3) := by decide +kernel
theorem dX12_greaterPart_34 : decode cX12_greaterPart 34 = .ok (.iconst 0, 1) := by decide +kernel
theorem dX12_greaterPart_35 : decode cX12_greaterPart 35 = .ok (.iadd, 1) := by decide +kernel
theorem dX12_greaterPart_36 : decode cX12_greaterPart 36 = .ok (.istore_n 2, 1) := by decide +kernel
theorem dX12_greaterPart_37 : decode cX12_greaterPart 37 = .ok (.iinc 3 1, 3) := by decide +kernel
theorem dX12_greaterPart_40 : decode cX12_greaterPart 40 = .ok (.goto (-36), 3) := by decide +kernel
theorem dX12_greaterPart_43 : decode cX12_greaterPart 43 = .ok (.iconst 2, 1) := by decide +kernel
theorem dX12_greaterPart_44 : decode cX12_greaterPart 44 = .ok (.iload_n 2, 1) := by decide +kernel
theorem dX12_greaterPart_45 : decode cX12_greaterPart 45 = .ok (.imul, 1) := by decide +kernel
theorem dX12_greaterPart_46 : decode cX12_greaterPart 46 = .ok (.aload_n 0, 1) := by decide +kernel
theorem dX12_greaterPart_47 : decode cX12_greaterPart 47 = .ok (.getfield 189, 3) := by decide +kernel
theorem dX12_greaterPart_50 : decode cX12_greaterPart 50 = .ok (.if_icmp .le 7, 3) := by decide +kernel
theorem dX12_greaterPart_53 : decode cX12_greaterPart 53 = .ok (.iload_n 2, 1) := by decide +kernel
theorem dX12_greaterPart_54 : decode cX12_greaterPart 54 = .ok (.goto 9, 3) := by decide +kernel
theorem dX12_greaterPart_57 : decode cX12_greaterPart 57 = .ok (.aload_n 0, 1) := by decide +kernel
theorem dX12_greaterPart_58 : decode cX12_greaterPart 58 = .ok (.getfield 189, 3) := by decide +kernel
theorem dX12_greaterPart_61 : decode cX12_greaterPart 61 = .ok (.iload_n 2, 1) := by decide +kernel
theorem dX12_greaterPart_62 : decode cX12_greaterPart 62 = .ok (.isub, 1) := by decide +kernel
theorem dX12_greaterPart_63 : decode cX12_greaterPart 63 = .ok (.ireturn, 1) := by decide +kernel
theorem dX12_tryNext_0 : decode cX12_tryNext 0 = .ok (.aload_n 0, 1) := by decide +kernel
theorem dX12_tryNext_1 : decode cX12_tryNext 1 = .ok (.invokevirtual 198, 3) := by decide +kernel
theorem dX12_tryNext_4 : decode cX12_tryNext 4 = .ok (.iconst (-1), 1) := by decide +kernel
theorem dX12_tryNext_5 : decode cX12_tryNext 5 = .ok (.istore_n 1, 1) := by decide +kernel
theorem dX12_tryNext_6 : decode cX12_tryNext 6 = .ok (.ldc 150, 2) := by decide +kernel
theorem dX12_tryNext_8 : decode cX12_tryNext 8 = .ok (.istore_n 2, 1) := by decide +kernel
theorem dX12_tryNext_9 : decode cX12_tryNext 9 = .ok (.iconst 1, 1) := by decide +kernel
theorem dX12_tryNext_10 : decode cX12_tryNext 10 = .ok (.istore_n 3, 1) := by decide +kernel
theorem dX12_tryNext_11 : decode cX12_tryNext 11 = .ok (.iload_n 3, 1) := by decide +kernel
theorem dX12_tryNext_12 : decode cX12_tryNext 12 = .ok (.sipush 300, 3) := by decide +kernel
theorem dX12_tryNext_15 : decode cX12_tryNext 15 = .ok (.if_icmp .gt 48, 3) := by decide +kernel
theorem dX12_tryNext_18 : decode cX12_tryNext 18 = .ok (.aload_n 0, 1) := by decide +kernel
theorem dX12_tryNext_19 : decode cX12_tryNext 19 = .ok (.getfield 189, 3) := by decide +kernel
theorem dX12_tryNext_22 : decode cX12_tryNext 22 = .ok (.ifCond .le 41, 3) := by decide +kernel
theorem dX12_tryNext_25 : decode cX12_tryNext 25 = .ok (.aload_n 0, 1) := by decide +kernel
theorem dX12_tryNext_26 : decode cX12_tryNext 26 = .ok (.iload_n 3, 1) := by decide +kernel
theorem dX12_tryNext_27 : decode cX12_tryNext 27 = .ok (.invokevirtual 201, 3) := by decide +kernel
theorem dX12_tryNext_30 : decode cX12_tryNext 30 = .ok (.istore 4, 2) := by decide +kernel
theorem dX12_tryNext_32 : decode cX12_tryNext 32 = .ok (.iload 4, 2) := by decide +kernel
theorem dX12_tryNext_34 : decode cX12_tryNext 34 = .ok (.iload_n 2, 1) := by decide +kernel
theorem dX12_tryNext_35 : decode cX12_tryNext 35 = .ok (.if_icmp .ge 7, 3) := by decide +kernel
theorem dX12_tryNext_38 : decode cX12_tryNext 38 = .ok (.iload_n 3, 1) := by decide +kernel
theorem dX12_tryNext_39 : decode cX12_tryNext 39 = .ok (.goto 4, 3) := by decide +kernel
theorem dX12_tryNext_42 : decode cX12_tryNext 42 = .ok (.iload_n 1, 1) := by decide +kernel
theorem dX12_tryNext_43 : decode cX12_tryNext 43 = .ok (.istore_n 1, 1) := by decide +kernel
theorem dX12_tryNext_44 : decode cX12_tryNext 44 = .ok (.iload 4, 2) := by decide +kernel
theorem dX12_tryNext_46 : decode cX12_tryNext 46 = .ok (.iload_n 2, 1) := by decide +kernel
theorem dX12_tryNext_47 : decode cX12_tryNext 47 = .ok (.if_icmp .ge 8, 3) := by decide +kernel
theorem dX12_tryNext_50 : decode cX12_tryNext 50 = .ok (.iload 4, 2) := by decide +kernel
theorem dX12_tryNext_52 : decode cX12_tryNext 52 = .ok (.goto 4, 3) := by decide +kernel
theorem dX12_tryNext_55 : decode cX12_tryNext 55 = .ok (.iload_n 2, 1) := by decide +kernel
theorem dX12_tryNext_56 : decode cX12_tryNext 56 = .ok (.istore_n 2, 1) := by decide +kernel
theorem dX12_tryNext_57 : decode cX12_tryNext 57 = .ok (.iinc 3 1, 3) := by decide +kernel
theorem dX12_tryNext_60 : decode cX12_tryNext 60 = .ok (.goto (-49), 3) := by decide +kernel
theorem dX12_tryNext_63 : decode cX12_tryNext 63 = .ok (.iload_n 1, 1) := by decide +kernel
theorem dX12_tryNext_64 : decode cX12_tryNext 64 = .ok (.ireturn, 1) := by decide +kernel
theorem dX12_note_0 : decode cX12_note 0 = .ok (.iload_n 1, 1) := by decide +kernel
theorem dX12_note_1 : decode cX12_note 1 = .ok (.invokestatic 131, 3) := by decide +kernel
theorem dX12_note_4 : decode cX12_note 4 = .ok (.ifCond .eq 20, 3) := by decide +kernel
theorem dX12_note_7 : decode cX12_note 7 = .ok (.iload_n 2, 1) := by decide +kernel
theorem dX12_note_8 : decode cX12_note 8 = .ok (.invokestatic 131, 3) := by decide +kernel
theorem dX12_note_11 : decode cX12_note 11 = .ok (.ifCond .eq 13, 3) := by decide +kernel
theorem dX12_note_14 : decode cX12_note 14 = .ok (.iload_n 3, 1) := by decide +kernel
theorem dX12_note_15 : decode cX12_note 15 = .ok (.i2l, 1) := by decide +kernel
theorem dX12_note_16 : decode cX12_note 16 = .ok (.lconst 0, 1) := by decide +kernel
theorem dX12_note_17 : decode cX12_note 17 = .ok (.lconst 1, 1) := by decide +kernel
theorem dX12_note_18 : decode cX12_note 18 = .ok (.invokestatic 59, 3) := by decide +kernel
theorem dX12_note_21 : decode cX12_note 21 = .ok (.ifCond .ne 10, 3) := by decide +kernel
theorem dX12_note_24 : decode cX12_note 24 = .ok (.aload_n 0, 1) := by decide +kernel
theorem dX12_note_25 : decode cX12_note 25 = .ok (.bipush (-2), 2) := by decide +kernel
theorem dX12_note_27 : decode cX12_note 27 = .ok (.invokevirtual 87, 3) := by decide +kernel
theorem dX12_note_30 : decode cX12_note 30 = .ok (.ireturn, 1) := by decide +kernel
theorem dX12_note_31 : decode cX12_note 31 = .ok (.aload_n 0, 1) := by decide +kernel
theorem dX12_note_32 : decode cX12_note 32 = .ok (.getfield 7, 3) := by decide +kernel
theorem dX12_note_35 : decode cX12_note 35 = .ok (.bipush 11, 2) := by decide +kernel
theorem dX12_note_37 : decode cX12_note 37 = .ok (.iaload, 1) := by decide +kernel
theorem dX12_note_38 : decode cX12_note 38 = .ok (.bipush 8, 2) := by decide +kernel
theorem dX12_note_40 : decode cX12_note 40 = .ok (.if_icmp .ne 8, 3) := by decide +kernel
theorem dX12_note_43 : decode cX12_note 43 = .ok (.aload_n 0, 1) := by decide +kernel
theorem dX12_note_44 : decode cX12_note 44 = .ok (.invokevirtual 186, 3) := by decide +kernel
theorem dX12_note_47 : decode cX12_note 47 = .ok (.ireturn, 1) := by decide +kernel
theorem dX12_note_48 : decode cX12_note 48 = .ok (.bipush 45, 2) := by decide +kernel
theorem dX12_note_50 : decode cX12_note 50 = .ok (.iconst 3, 1) := by decide +kernel
theorem dX12_note_51 : decode cX12_note 51 = .ok (.aload_n 0, 1) := by decide +kernel
theorem dX12_note_52 : decode cX12_note 52 = .ok (.getfield 7, 3) := by decide +kernel
theorem dX12_note_55 : decode cX12_note 55 = .ok (.bipush 11, 2) := by decide +kernel
theorem dX12_note_57 : decode cX12_note 57 = .ok (.iaload, 1) := by decide +kernel
theorem dX12_note_58 : decode cX12_note 58 = .ok (.imul, 1) := by decide +kernel
theorem dX12_note_59 : decode cX12_note 59 = .ok (.iadd, 1) := by decide +kernel
theorem dX12_note_60 : decode cX12_note 60 = .ok (.istore 4, 2) := by decide +kernel
theorem dX12_note_62 : decode cX12_note 62 = .ok (.aload_n 0, 1) := by decide +kernel
theorem dX12_note_63 : decode cX12_note 63 = .ok (.getfield 7, 3) := by decide +kernel
theorem dX12_note_66 : decode cX12_note 66 = .ok (.iload 4, 2) := by decide +kernel
theorem dX12_note_68 : decode cX12_note 68 = .ok (.iload_n 1, 1) := by decide +kernel
theorem dX12_note_69 : decode cX12_note 69 = .ok (.iastore, 1) := by decide +kernel
theorem dX12_note_70 : decode cX12_note 70 = .ok (.aload_n 0, 1) := by decide +kernel
theorem dX12_note_71 : decode cX12_note 71 = .ok (.getfield 7, 3) := by decide +kernel
theorem dX12_note_74 : decode cX12_note 74 = .ok (.iload 4, 2) := by decide +kernel
theorem dX12_note_76 : decode cX12_note 76 = .ok (.iconst 1, 1) := by decide +kernel
theorem dX12_note_77 : decode cX12_note 77 = .ok (.iadd, 1) := by decide +kernel
theorem dX12_note_78 : decode cX12_note 78 = .ok (.iload_n 2, 1) := by decide +kernel
theorem dX12_note_79 : decode cX12_note 79 = .ok (.iastore, 1) := by decide +kernel
theorem dX12_note_80 : decode cX12_note 80 = .ok (.aload_n 0, 1) := by decide +kernel
theorem dX12_note_81 : decode cX12_note 81 = .ok (.getfield 7, 3) := by decide +kernel
theorem dX12_note_84 : decode cX12_note 84 = .ok (.iload 4, 2) := by decide +kernel
theorem dX12_note_86 : decode cX12_note 86 = .ok (.iconst 2, 1) := by decide +kernel
theorem dX12_note_87 : decode cX12_note 87 = .ok (.iadd, 1) := by decide +kernel
theorem dX12_note_88 : decode cX12_note 88 = .ok (.iload_n 3, 1) := by decide +kernel
theorem dX12_note_89 : decode cX12_note 89 = .ok (.iastore, 1) := by decide +kernel
theorem dX12_note_90 : decode cX12_note 90 = .ok (.aload_n 0, 1) := by decide +kernel
theorem dX12_note_91 : decode cX12_note 91 = .ok (.getfield 7, 3) := by decide +kernel
theorem dX12_note_94 : decode cX12_note 94 = .ok (.bipush 11, 2) := by decide +kernel
theorem dX12_note_96 : decode cX12_note 96 = .ok (.dup2, 1) := by decide +kernel
theorem dX12_note_97 : decode cX12_note 97 = .ok (.iaload, 1) := by decide +kernel
theorem dX12_note_98 : decode cX12_note 98 = .ok (.iconst 1, 1) := by decide +kernel
theorem dX12_note_99 : decode cX12_note 99 = .ok (.iadd, 1) := by decide +kernel
theorem dX12_note_100 : decode cX12_note 100 = .ok (.iastore, 1) := by decide +kernel
theorem dX12_note_101 : decode cX12_note 101 = .ok (.aload_n 0, 1) := by decide +kernel
theorem dX12_note_102 : decode cX12_note 102 = .ok (.getfield 7, 3) := by decide +kernel
theorem dX12_note_105 : decode cX12_note 105 = .ok (.bipush 11, 2) := by decide +kernel
theorem dX12_note_107 : decode cX12_note 107 = .ok (.iaload, 1) := by decide +kernel
theorem dX12_note_108 : decode cX12_note 108 = .ok (.ireturn, 1) := by decide +kernel
theorem dX12_isLawSo_0 : decode cX12_isLawSo 0 = .ok (.iconst 1, 1) := by decide +kernel
theorem dX12_isLawSo_1 : decode cX12_isLawSo 1 = .ok (.istore_n 2, 1) := by decide +kernel
theorem dX12_isLawSo_2 : decode cX12_isLawSo 2 = .ok (.iconst 0, 1) := by decide +kernel
theorem dX12_isLawSo_3 : decode cX12_isLawSo 3 = .ok (.istore_n 3, 1) := by decide +kernel
theorem dX12_isLawSo_4 : decode cX12_isLawSo 4 = .ok (.iload_n 3, 1) := by decide +kernel
theorem dX12_isLawSo_5 : decode cX12_isLawSo 5 = .ok (.aload_n 0, 1) := by decide +kernel
theorem dX12_isLawSo_6 : decode cX12_isLawSo 6 = .ok (.getfield 7, 3) := by decide +kernel
theorem dX12_isLawSo_9 : decode cX12_isLawSo 9 = .ok (.bipush 11, 2) := by decide +kernel
theorem dX12_isLawSo_11 : decode cX12_isLawSo 11 = .ok (.iaload, 1) := by decide +kernel
theorem dX12_isLawSo_12 : decode cX12_isLawSo 12 = .ok (.if_icmp .ge 76, 3) := by decide +kernel
theorem dX12_isLawSo_15 : decode cX12_isLawSo 15 = .ok (.bipush 45, 2) := by decide +kernel
theorem dX12_isLawSo_17 : decode cX12_isLawSo 17 = .ok (.iconst 3, 1) := by decide +kernel
theorem dX12_isLawSo_18 : decode cX12_isLawSo 18 = .ok (.iload_n 3, 1) := by decide +kernel
theorem dX12_isLawSo_19 : decode cX12_isLawSo 19 = .ok (.imul, 1) := by decide +kernel
theorem dX12_isLawSo_20 : decode cX12_isLawSo 20 = .ok (.iadd, 1) := by decide +kernel
theorem dX12_isLawSo_21 : decode cX12_isLawSo 21 = .ok (.istore 4, 2) := by decide +kernel
theorem dX12_isLawSo_23 : decode cX12_isLawSo 23 = .ok (.iload_n 2, 1) := by decide +kernel
theorem dX12_isLawSo_24 : decode cX12_isLawSo 24 = .ok (.ifCond .eq 56, 3) := by decide +kernel
theorem dX12_isLawSo_27 : decode cX12_isLawSo 27 = .ok (.aload_n 0, 1) := by decide +kernel
theorem dX12_isLawSo_28 : decode cX12_isLawSo 28 = .ok (.iload_n 1, 1) := by decide +kernel
theorem dX12_isLawSo_29 : decode cX12_isLawSo 29 = .ok (.bipush 10, 2) := by decide +kernel
theorem dX12_isLawSo_31 : decode cX12_isLawSo 31 = .ok (.idiv, 1) := by decide +kernel
theorem dX12_isLawSo_32 : decode cX12_isLawSo 32 = .ok (.iload_n 1, 1) := by decide +kernel
theorem dX12_isLawSo_33 : decode cX12_isLawSo 33 = .ok (.bipush 10, 2) := by decide +kernel
theorem dX12_isLawSo_35 : decode cX12_isLawSo 35 = .ok (.irem, 1) := by decide +kernel
theorem dX12_isLawSo_36 : decode cX12_isLawSo 36 = .ok (.aload_n 0, 1) := by decide +kernel
theorem dX12_isLawSo_37 : decode cX12_isLawSo 37 = .ok (.getfield 7, 3) := by decide +kernel
theorem dX12_isLawSo_40 : decode cX12_isLawSo 40 = .ok (.iload 4, 2) := by decide +kernel
theorem dX12_isLawSo_42 : decode cX12_isLawSo 42 = .ok (.iaload, 1) := by decide +kernel
theorem dX12_isLawSo_43 : decode cX12_isLawSo 43 = .ok (.aload_n 0, 1) := by decide +kernel
theorem dX12_isLawSo_44 : decode cX12_isLawSo 44 = .ok (.getfield 7, 3) := by decide +kernel
theorem dX12_isLawSo_47 : decode cX12_isLawSo 47 = .ok (.iload 4, 2) := by decide +kernel
theorem dX12_isLawSo_49 : decode cX12_isLawSo 49 = .ok (.iconst 1, 1) := by decide +kernel
theorem dX12_isLawSo_50 : decode cX12_isLawSo 50 = .ok (.iadd, 1) := by decide +kernel
theorem dX12_isLawSo_51 : decode cX12_isLawSo 51 = .ok (.iaload, 1) := by decide +kernel
theorem dX12_isLawSo_52 : decode cX12_isLawSo 52 = .ok (.invokevirtual 80, 3) := by decide +kernel
theorem dX12_isLawSo_55 : decode cX12_isLawSo 55 = .ok (.aload_n 0, 1) := by decide +kernel
theorem dX12_isLawSo_56 : decode cX12_isLawSo 56 = .ok (.getfield 7, 3) := by decide +kernel
theorem dX12_isLawSo_59 : decode cX12_isLawSo 59 = .ok (.iload 4, 2) := by decide +kernel
theorem dX12_isLawSo_61 : decode cX12_isLawSo 61 = .ok (.iconst 2, 1) := by decide +kernel
theorem dX12_isLawSo_62 : decode cX12_isLawSo 62 = .ok (.iadd, 1) := by decide +kernel
theorem dX12_isLawSo_63 : decode cX12_isLawSo 63 = .ok (.iaload, 1) := by decide +kernel
theorem dX12_isLawSo_64 : decode cX12_isLawSo 64 = .ok (.iconst 1, 1) := by decide +kernel
theorem dX12_isLawSo_65 : decode cX12_isLawSo 65 = .ok (.if_icmp .ne 7, 3) := by decide +kernel
theorem dX12_isLawSo_68 : decode cX12_isLawSo 68 = .ok (.iconst 1, 1) := by decide +kernel
theorem dX12_isLawSo_69 : decode cX12_isLawSo 69 = .ok (.goto 4, 3) := by decide +kernel
theorem dX12_isLawSo_72 : decode cX12_isLawSo 72 = .ok (.iconst 0, 1) := by decide +kernel
theorem dX12_isLawSo_73 : decode cX12_isLawSo 73 = .ok (.if_icmp .ne 7, 3) := by decide +kernel
theorem dX12_isLawSo_76 : decode cX12_isLawSo 76 = .ok (.iconst 1, 1) := by decide +kernel
theorem dX12_isLawSo_77 : decode cX12_isLawSo 77 = .ok (.goto 4, 3) := by decide +kernel
theorem dX12_isLawSo_80 : decode cX12_isLawSo 80 = .ok (.iconst 0, 1) := by decide +kernel
theorem dX12_isLawSo_81 : decode cX12_isLawSo 81 = .ok (.istore_n 2, 1) := by decide +kernel
theorem dX12_isLawSo_82 : decode cX12_isLawSo 82 = .ok (.iinc 3 1, 3) := by decide +kernel
theorem dX12_isLawSo_85 : decode cX12_isLawSo 85 = .ok (.goto (-81), 3) := by decide +kernel
theorem dX12_isLawSo_88 : decode cX12_isLawSo 88 = .ok (.iload_n 2, 1) := by decide +kernel
theorem dX12_isLawSo_89 : decode cX12_isLawSo 89 = .ok (.ireturn, 1) := by decide +kernel
theorem dX12_laws_0 : decode cX12_laws 0 = .ok (.iload_n 1, 1) := by decide +kernel
theorem dX12_laws_1 : decode cX12_laws 1 = .ok (.i2l, 1) := by decide +kernel
theorem dX12_laws_2 : decode cX12_laws 2 = .ok (.lconst 0, 1) := by decide +kernel
theorem dX12_laws_3 : decode cX12_laws 3 = .ok (.lconst 1, 1) := by decide +kernel
theorem dX12_laws_4 : decode cX12_laws 4 = .ok (.invokestatic 59, 3) := by decide +kernel
theorem dX12_laws_7 : decode cX12_laws 7 = .ok (.ifCond .ne 10, 3) := by decide +kernel
theorem dX12_laws_10 : decode cX12_laws 10 = .ok (.aload_n 0, 1) := by decide +kernel
theorem dX12_laws_11 : decode cX12_laws 11 = .ok (.bipush (-10), 2) := by decide +kernel
theorem dX12_laws_13 : decode cX12_laws 13 = .ok (.invokevirtual 87, 3) := by decide +kernel
theorem dX12_laws_16 : decode cX12_laws 16 = .ok (.ireturn, 1) := by decide +kernel
theorem dX12_laws_17 : decode cX12_laws 17 = .ok (.iconst 0, 1) := by decide +kernel
theorem dX12_laws_18 : decode cX12_laws 18 = .ok (.istore_n 2, 1) := by decide +kernel
theorem dX12_laws_19 : decode cX12_laws 19 = .ok (.iconst (-1), 1) := by decide +kernel
theorem dX12_laws_20 : decode cX12_laws 20 = .ok (.istore_n 3, 1) := by decide +kernel
theorem dX12_laws_21 : decode cX12_laws 21 = .ok (.iconst 0, 1) := by decide +kernel
theorem dX12_laws_22 : decode cX12_laws 22 = .ok (.istore 4, 2) := by decide +kernel
theorem dX12_laws_24 : decode cX12_laws 24 = .ok (.iload 4, 2) := by decide +kernel
theorem dX12_laws_26 : decode cX12_laws 26 = .ok (.bipush 60, 2) := by decide +kernel
theorem dX12_laws_28 : decode cX12_laws 28 = .ok (.if_icmp .ge 46, 3) := by decide +kernel
theorem dX12_laws_31 : decode cX12_laws 31 = .ok (.aload_n 0, 1) := by decide +kernel
theorem dX12_laws_32 : decode cX12_laws 32 = .ok (.iload 4, 2) := by decide +kernel
theorem dX12_laws_34 : decode cX12_laws 34 = .ok (.invokevirtual 204, 3) := by decide +kernel
theorem dX12_laws_37 : decode cX12_laws 37 = .ok (.istore 5, 2) := by decide +kernel
theorem dX12_laws_39 : decode cX12_laws 39 = .ok (.iload 5, 2) := by decide +kernel
theorem dX12_laws_41 : decode cX12_laws 41 = .ok (.ifCond .eq 12, 3) := by decide +kernel
theorem dX12_laws_44 : decode cX12_laws 44 = .ok (.iload_n 2, 1) := by decide +kernel
theorem dX12_laws_45 : decode cX12_laws 45 = .ok (.ifCond .ne 8, 3) := by decide +kernel
theorem dX12_laws_48 : decode cX12_laws 48 = .ok (.iload 4, 2) := by decide +kernel
theorem dX12_laws_50 : decode cX12_laws 50 = .ok (.goto 4, 3) := by decide +kernel
theorem dX12_laws_53 : decode cX12_laws 53 = .ok (.iload_n 3, 1) := by decide +kernel
theorem dX12_laws_54 : decode cX12_laws 54 = .ok (.istore_n 3, 1) := by decide +kernel
theorem dX12_laws_55 : decode cX12_laws 55 = .ok (.iload_n 2, 1) := by decide +kernel
theorem dX12_laws_56 : decode cX12_laws 56 = .ok (.iload 5, 2) := by decide +kernel
theorem dX12_laws_58 : decode cX12_laws 58 = .ok (.ifCond .eq 7, 3) := by decide +kernel
theorem dX12_laws_61 : decode cX12_laws 61 = .ok (.iconst 1, 1) := by decide +kernel
theorem dX12_laws_62 : decode cX12_laws 62 = .ok (.goto 4, 3) := by decide +kernel
theorem dX12_laws_65 : decode cX12_laws 65 = .ok (.iconst 0, 1) := by decide +kernel
theorem dX12_laws_66 : decode cX12_laws 66 = .ok (.iadd, 1) := by decide +kernel
theorem dX12_laws_67 : decode cX12_laws 67 = .ok (.istore_n 2, 1) := by decide +kernel
theorem dX12_laws_68 : decode cX12_laws 68 = .ok (.iinc 4 1, 3) := by decide +kernel
theorem dX12_laws_71 : decode cX12_laws 71 = .ok (.goto (-47), 3) := by decide +kernel
theorem dX12_laws_74 : decode cX12_laws 74 = .ok (.iload_n 1, 1) := by decide +kernel
theorem dX12_laws_75 : decode cX12_laws 75 = .ok (.ifCond .ne 7, 3) := by decide +kernel
theorem dX12_laws_78 : decode cX12_laws 78 = .ok (.iload_n 2, 1) := by decide +kernel
theorem dX12_laws_79 : decode cX12_laws 79 = .ok (.goto 4, 3) := by decide +kernel
theorem dX12_laws_82 : decode cX12_laws 82 = .ok (.iload_n 3, 1) := by decide +kernel
theorem dX12_laws_83 : decode cX12_laws 83 = .ok (.ireturn, 1) := by decide +kernel
theorem dX12_forget_0 : decode cX12_forget 0 = .ok (.iload_n 1, 1) := by decide +kernel
theorem dX12_forget_1 : decode cX12_forget 1 = .ok (.i2l, 1) := by decide +kernel
theorem dX12_forget_2 : decode cX12_forget 2 = .ok (.lconst 0, 1) := by decide +kernel
theorem dX12_forget_3 : decode cX12_forget 3 = .ok (.lconst 1, 1) := by decide +kernel
theorem dX12_forget_4 : decode cX12_forget 4 = .ok (.invokestatic 59, 3) := by decide +kernel
theorem dX12_forget_7 : decode cX12_forget 7 = .ok (.ifCond .ne 10, 3) := by decide +kernel
theorem dX12_forget_10 : decode cX12_forget 10 = .ok (.aload_n 0, 1) := by decide +kernel
theorem dX12_forget_11 : decode cX12_forget 11 = .ok (.bipush (-2), 2) := by decide +kernel
theorem dX12_forget_13 : decode cX12_forget 13 = .ok (.invokevirtual 87, 3) := by decide +kernel
theorem dX12_forget_16 : decode cX12_forget 16 = .ok (.ireturn, 1) := by decide +kernel
theorem dX12_forget_17 : decode cX12_forget 17 = .ok (.iload_n 1, 1) := by decide +kernel
theorem dX12_forget_18 : decode cX12_forget 18 = .ok (.ifCond .ne 8, 3) := by decide +kernel
theorem dX12_forget_21 : decode cX12_forget 21 = .ok (.bipush 10, 2) := by decide +kernel
theorem dX12_forget_23 : decode cX12_forget 23 = .ok (.goto 5, 3) := by decide +kernel
theorem dX12_forget_26 : decode cX12_forget 26 = .ok (.bipush 11, 2) := by decide +kernel
theorem dX12_forget_28 : decode cX12_forget 28 = .ok (.istore_n 2, 1) := by decide +kernel
theorem dX12_forget_29 : decode cX12_forget 29 = .ok (.aload_n 0, 1) := by decide +kernel
theorem dX12_forget_30 : decode cX12_forget 30 = .ok (.getfield 7, 3) := by decide +kernel
theorem dX12_forget_33 : decode cX12_forget 33 = .ok (.iload_n 2, 1) := by decide +kernel
theorem dX12_forget_34 : decode cX12_forget 34 = .ok (.iaload, 1) := by decide +kernel
theorem dX12_forget_35 : decode cX12_forget 35 = .ok (.istore_n 3, 1) := by decide +kernel
theorem dX12_forget_36 : decode cX12_forget 36 = .ok (.aload_n 0, 1) := by decide +kernel
theorem dX12_forget_37 : decode cX12_forget 37 = .ok (.getfield 7, 3) := by decide +kernel
theorem dX12_forget_40 : decode cX12_forget 40 = .ok (.iload_n 2, 1) := by decide +kernel
theorem dX12_forget_41 : decode cX12_forget 41 = .ok (.iconst 0, 1) := by decide +kernel
theorem dX12_forget_42 : decode cX12_forget 42 = .ok (.iastore, 1) := by decide +kernel
theorem dX12_forget_43 : decode cX12_forget 43 = .ok (.iload_n 3, 1) := by decide +kernel
theorem dX12_forget_44 : decode cX12_forget 44 = .ok (.ireturn, 1) := by decide +kernel
theorem dX12_split_0 : decode cX12_split 0 = .ok (.iload_n 1, 1) := by decide +kernel
theorem dX12_split_1 : decode cX12_split 1 = .ok (.invokestatic 108, 3) := by decide +kernel
theorem dX12_split_4 : decode cX12_split 4 = .ok (.ifCond .ne 10, 3) := by decide +kernel
theorem dX12_split_7 : decode cX12_split 7 = .ok (.aload_n 0, 1) := by decide +kernel
theorem dX12_split_8 : decode cX12_split 8 = .ok (.bipush (-2), 2) := by decide +kernel
theorem dX12_split_10 : decode cX12_split 10 = .ok (.invokevirtual 87, 3) := by decide +kernel
theorem dX12_split_13 : decode cX12_split 13 = .ok (.ireturn, 1) := by decide +kernel
theorem dX12_split_14 : decode cX12_split 14 = .ok (.iconst (-1), 1) := by decide +kernel
theorem dX12_split_15 : decode cX12_split 15 = .ok (.istore_n 2, 1) := by decide +kernel
theorem dX12_split_16 : decode cX12_split 16 = .ok (.bipush 8, 2) := by decide +kernel
theorem dX12_split_18 : decode cX12_split 18 = .ok (.istore_n 3, 1) := by decide +kernel
theorem dX12_split_19 : decode cX12_split 19 = .ok (.iload_n 3, 1) := by decide +kernel
theorem dX12_split_20 : decode cX12_split 20 = .ok (.ifCond .le 34, 3) := by decide +kernel
theorem dX12_split_23 : decode cX12_split 23 = .ok (.iload_n 1, 1) := by decide +kernel
theorem dX12_split_24 : decode cX12_split 24 = .ok (.iload_n 3, 1) := by decide +kernel
theorem dX12_split_25 : decode cX12_split 25 = .ok (.iadd, 1) := by decide +kernel
theorem dX12_split_26 : decode cX12_split 26 = .ok (.bipush 8, 2) := by decide +kernel
theorem dX12_split_28 : decode cX12_split 28 = .ok (.irem, 1) := by decide +kernel
theorem dX12_split_29 : decode cX12_split 29 = .ok (.istore 4, 2) := by decide +kernel
theorem dX12_split_31 : decode cX12_split 31 = .ok (.aload_n 0, 1) := by decide +kernel
theorem dX12_split_32 : decode cX12_split 32 = .ok (.getfield 7, 3) := by decide +kernel
theorem dX12_split_35 : decode cX12_split 35 = .ok (.iload 4, 2) := by decide +kernel
theorem dX12_split_37 : decode cX12_split 37 = .ok (.iaload, 1) := by decide +kernel
theorem dX12_split_38 : decode cX12_split 38 = .ok (.ifCond .ne 8, 3) := by decide +kernel
theorem dX12_split_41 : decode cX12_split 41 = .ok (.iload 4, 2) := by decide +kernel
theorem dX12_split_43 : decode cX12_split 43 = .ok (.goto 4, 3) := by decide +kernel
theorem dX12_split_46 : decode cX12_split 46 = .ok (.iload_n 2, 1) := by decide +kernel
theorem dX12_split_47 : decode cX12_split 47 = .ok (.istore_n 2, 1) := by decide +kernel
theorem dX12_split_48 : decode cX12_split 48 = .ok (.iinc 3 (-1), 3) := by decide +kernel
theorem dX12_split_51 : decode cX12_split 51 = .ok (.goto (-32), 3) := by decide +kernel
theorem dX12_split_54 : decode cX12_split 54 = .ok (.iload_n 2, 1) := by decide +kernel
theorem dX12_split_55 : decode cX12_split 55 = .ok (.iconst (-1), 1) := by decide +kernel
theorem dX12_split_56 : decode cX12_split 56 = .ok (.if_icmp .eq 13, 3) := by decide +kernel
theorem dX12_split_59 : decode cX12_split 59 = .ok (.aload_n 0, 1) := by decide +kernel
theorem dX12_split_60 : decode cX12_split 60 = .ok (.getfield 7, 3) := by decide +kernel
theorem dX12_split_63 : decode cX12_split 63 = .ok (.iload_n 1, 1) := by decide +kernel
theorem dX12_split_64 : decode cX12_split 64 = .ok (.iaload, 1) := by decide +kernel
theorem dX12_split_65 : decode cX12_split 65 = .ok (.iconst 2, 1) := by decide +kernel
theorem dX12_split_66 : decode cX12_split 66 = .ok (.if_icmp .ge 5, 3) := by decide +kernel
theorem dX12_split_69 : decode cX12_split 69 = .ok (.iconst (-1), 1) := by decide +kernel
theorem dX12_split_70 : decode cX12_split 70 = .ok (.ireturn, 1) := by decide +kernel
theorem dX12_split_71 : decode cX12_split 71 = .ok (.aload_n 0, 1) := by decide +kernel
theorem dX12_split_72 : decode cX12_split 72 = .ok (.invokevirtual 125, 3) := by decide +kernel
theorem dX12_split_75 : decode cX12_split 75 = .ok (.aload_n 0, 1) := by decide +kernel
theorem dX12_split_76 : decode cX12_split 76 = .ok (.getfield 30, 3) := by decide +kernel
theorem dX12_split_79 : decode cX12_split 79 = .ok (.iload_n 1, 1) := by decide +kernel
theorem dX12_split_80 : decode cX12_split 80 = .ok (.aload_n 0, 1) := by decide +kernel
theorem dX12_split_81 : decode cX12_split 81 = .ok (.getfield 7, 3) := by decide +kernel
theorem dX12_split_84 : decode cX12_split 84 = .ok (.iload_n 1, 1) := by decide +kernel
theorem dX12_split_85 : decode cX12_split 85 = .ok (.iaload, 1) := by decide +kernel
theorem dX12_split_86 : decode cX12_split 86 = .ok (.iconst 2, 1) := by decide +kernel
theorem dX12_split_87 : decode cX12_split 87 = .ok (.idiv, 1) := by decide +kernel
theorem dX12_split_88 : decode cX12_split 88 = .ok (.iastore, 1) := by decide +kernel
theorem dX12_split_89 : decode cX12_split 89 = .ok (.aload_n 0, 1) := by decide +kernel
theorem dX12_split_90 : decode cX12_split 90 = .ok (.getfield 30, 3) := by decide +kernel
theorem dX12_split_93 : decode cX12_split 93 = .ok (.iload_n 2, 1) := by decide +kernel
theorem dX12_split_94 : decode cX12_split 94 = .ok (.aload_n 0, 1) := by decide +kernel
theorem dX12_split_95 : decode cX12_split 95 = .ok (.getfield 7, 3) := by decide +kernel
theorem dX12_split_98 : decode cX12_split 98 = .ok (.iload_n 1, 1) := by decide +kernel
theorem dX12_split_99 : decode cX12_split 99 = .ok (.iaload, 1) := by decide +kernel
theorem dX12_split_100 : decode cX12_split 100 = .ok (.aload_n 0, 1) := by decide +kernel
theorem dX12_split_101 : decode cX12_split 101 = .ok (.getfield 7, 3) := by decide +kernel
theorem dX12_split_104 : decode cX12_split 104 = .ok (.iload_n 1, 1) := by decide +kernel
theorem dX12_split_105 : decode cX12_split 105 = .ok (.iaload, 1) := by decide +kernel
theorem dX12_split_106 : decode cX12_split 106 = .ok (.iconst 2, 1) := by decide +kernel
theorem dX12_split_107 : decode cX12_split 107 = .ok (.idiv, 1) := by decide +kernel
theorem dX12_split_108 : decode cX12_split 108 = .ok (.isub, 1) := by decide +kernel
theorem dX12_split_109 : decode cX12_split 109 = .ok (.iastore, 1) := by decide +kernel
theorem dX12_split_110 : decode cX12_split 110 = .ok (.aload_n 0, 1) := by decide +kernel
theorem dX12_split_111 : decode cX12_split 111 = .ok (.invokevirtual 134, 3) := by decide +kernel
theorem dX12_split_114 : decode cX12_split 114 = .ok (.ireturn, 1) := by decide +kernel
theorem dX12_fraction_0 : decode cX12_fraction 0 = .ok (.lload_n 1, 1) := by decide +kernel
theorem dX12_fraction_1 : decode cX12_fraction 1 = .ok (.lstore 5, 2) := by decide +kernel
theorem dX12_fraction_3 : decode cX12_fraction 3 = .ok (.lload_n 3, 1) := by decide +kernel
theorem dX12_fraction_4 : decode cX12_fraction 4 = .ok (.lstore 7, 2) := by decide +kernel
theorem dX12_fraction_6 : decode cX12_fraction 6 = .ok (.lload 7, 2) := by decide +kernel
theorem dX12_fraction_8 : decode cX12_fraction 8 = .ok (.lconst 0, 1) := by decide +kernel
theorem dX12_fraction_9 : decode cX12_fraction 9 = .ok (.lcmp, 1) := by decide +kernel
theorem dX12_fraction_10 : decode cX12_fraction 10 = .ok (.ifCond .eq 21, 3) := by decide +kernel
theorem dX12_fraction_13 : decode cX12_fraction 13 = .ok (.lload 5, 2) := by decide +kernel
theorem dX12_fraction_15 : decode cX12_fraction 15 = .ok (.lload 7, 2) := by decide +kernel
theorem dX12_fraction_17 : decode cX12_fraction 17 = .ok (.lrem, 1) := by decide +kernel
theorem dX12_fraction_18 : decode cX12_fraction 18 = .ok (.lstore 9, 2) := by decide +kernel
theorem dX12_fraction_20 : decode cX12_fraction 20 = .ok (.lload 7, 2) := by decide +kernel
theorem dX12_fraction_22 : decode cX12_fraction 22 = .ok (.lstore 5, 2) := by decide +kernel
theorem dX12_fraction_24 : decode cX12_fraction 24 = .ok (.lload 9, 2) := by decide +kernel
theorem dX12_fraction_26 : decode cX12_fraction 26 = .ok (.lstore 7, 2) := by decide +kernel
theorem dX12_fraction_28 : decode cX12_fraction 28 = .ok (.goto (-22), 3) := by decide +kernel
theorem dX12_fraction_31 : decode cX12_fraction 31 = .ok (.aload_n 0, 1) := by decide +kernel
theorem dX12_fraction_32 : decode cX12_fraction 32 = .ok (.lload_n 1, 1) := by decide +kernel
theorem dX12_fraction_33 : decode cX12_fraction 33 = .ok (.lload 5, 2) := by decide +kernel
theorem dX12_fraction_35 : decode cX12_fraction 35 = .ok (.ldiv, 1) := by decide +kernel
theorem dX12_fraction_36 : decode cX12_fraction 36 = .ok (.putfield 207, 3) := by decide +kernel
theorem dX12_fraction_39 : decode cX12_fraction 39 = .ok (.aload_n 0, 1) := by decide +kernel
theorem dX12_fraction_40 : decode cX12_fraction 40 = .ok (.lload_n 3, 1) := by decide +kernel
theorem dX12_fraction_41 : decode cX12_fraction 41 = .ok (.lload 5, 2) := by decide +kernel
theorem dX12_fraction_43 : decode cX12_fraction 43 = .ok (.ldiv, 1) := by decide +kernel
theorem dX12_fraction_44 : decode cX12_fraction 44 = .ok (.putfield 26, 3) := by decide +kernel
theorem dX12_fraction_47 : decode cX12_fraction 47 = .ok (.return_, 1) := by decide +kernel
theorem dX12_odds_0 : decode cX12_odds 0 = .ok (.iload_n 1, 1) := by decide +kernel
theorem dX12_odds_1 : decode cX12_odds 1 = .ok (.i2l, 1) := by decide +kernel
theorem dX12_odds_2 : decode cX12_odds 2 = .ok (.lconst 0, 1) := by decide +kernel
theorem dX12_odds_3 : decode cX12_odds 3 = .ok (.ldc2_w 210, 3) := by decide +kernel
theorem dX12_odds_6 : decode cX12_odds 6 = .ok (.invokestatic 59, 3) := by decide +kernel
theorem dX12_odds_9 : decode cX12_odds 9 = .ok (.ifCond .ne 10, 3) := by decide +kernel
theorem dX12_odds_12 : decode cX12_odds 12 = .ok (.aload_n 0, 1) := by decide +kernel
theorem dX12_odds_13 : decode cX12_odds 13 = .ok (.bipush (-2), 2) := by decide +kernel
theorem dX12_odds_15 : decode cX12_odds 15 = .ok (.invokevirtual 87, 3) := by decide +kernel
theorem dX12_odds_18 : decode cX12_odds 18 = .ok (.ireturn, 1) := by decide +kernel
theorem dX12_odds_19 : decode cX12_odds 19 = .ok (.aload_n 0, 1) := by decide +kernel
theorem dX12_odds_20 : decode cX12_odds 20 = .ok (.invokevirtual 91, 3) := by decide +kernel
theorem dX12_odds_23 : decode cX12_odds 23 = .ok (.istore_n 2, 1) := by decide +kernel
theorem dX12_odds_24 : decode cX12_odds 24 = .ok (.lconst 0, 1) := by decide +kernel
theorem dX12_odds_25 : decode cX12_odds 25 = .ok (.lstore_n 3, 1) := by decide +kernel
theorem dX12_odds_26 : decode cX12_odds 26 = .ok (.lconst 1, 1) := by decide +kernel
theorem dX12_odds_27 : decode cX12_odds 27 = .ok (.lstore 5, 2) := by decide +kernel
theorem dX12_odds_29 : decode cX12_odds 29 = .ok (.iconst 0, 1) := by decide +kernel
theorem dX12_odds_30 : decode cX12_odds 30 = .ok (.istore 7, 2) := by decide +kernel
theorem dX12_odds_32 : decode cX12_odds 32 = .ok (.iload 7, 2) := by decide +kernel
theorem dX12_odds_34 : decode cX12_odds 34 = .ok (.iload_n 2, 1) := by decide +kernel
theorem dX12_odds_35 : decode cX12_odds 35 = .ok (.invokestatic 95, 3) := by decide +kernel
theorem dX12_odds_38 : decode cX12_odds 38 = .ok (.if_icmp .ge 17, 3) := by decide +kernel
theorem dX12_odds_41 : decode cX12_odds 41 = .ok (.lload 5, 2) := by decide +kernel
theorem dX12_odds_43 : decode cX12_odds 43 = .ok (.ldc2_w 210, 3) := by decide +kernel
theorem dX12_odds_46 : decode cX12_odds 46 = .ok (.lmul, 1) := by decide +kernel
theorem dX12_odds_47 : decode cX12_odds 47 = .ok (.lstore 5, 2) := by decide +kernel
theorem dX12_odds_49 : decode cX12_odds 49 = .ok (.iinc 7 1, 3) := by decide +kernel
theorem dX12_odds_52 : decode cX12_odds 52 = .ok (.goto (-20), 3) := by decide +kernel
theorem dX12_odds_55 : decode cX12_odds 55 = .ok (.iconst 0, 1) := by decide +kernel
theorem dX12_odds_56 : decode cX12_odds 56 = .ok (.istore 7, 2) := by decide +kernel
theorem dX12_odds_58 : decode cX12_odds 58 = .ok (.iload 7, 2) := by decide +kernel
theorem dX12_odds_60 : decode cX12_odds 60 = .ok (.sipush 256, 3) := by decide +kernel
theorem dX12_odds_63 : decode cX12_odds 63 = .ok (.if_icmp .ge 149, 3) := by decide +kernel
theorem dX12_odds_66 : decode cX12_odds 66 = .ok (.iload 7, 2) := by decide +kernel
theorem dX12_odds_68 : decode cX12_odds 68 = .ok (.iload_n 2, 1) := by decide +kernel
theorem dX12_odds_69 : decode cX12_odds 69 = .ok (.iconst (-1), 1) := by decide +kernel
theorem dX12_odds_70 : decode cX12_odds 70 = .ok (.ixor, 1) := by decide +kernel
theorem dX12_odds_71 : decode cX12_odds 71 = .ok (.iand, 1) := by decide +kernel
theorem dX12_odds_72 : decode cX12_odds 72 = .ok (.ifCond .ne 134, 3) := by decide +kernel
theorem dX12_odds_75 : decode cX12_odds 75 = .ok (.lconst 1, 1) := by decide +kernel
theorem dX12_odds_76 : decode cX12_odds 76 = .ok (.lstore 8, 2) := by decide +kernel
theorem dX12_odds_78 : decode cX12_odds 78 = .ok (.iconst 0, 1) := by decide +kernel
theorem dX12_odds_79 : decode cX12_odds 79 = .ok (.istore 10, 2) := by decide +kernel
theorem dX12_odds_81 : decode cX12_odds 81 = .ok (.iload 10, 2) := by decide +kernel
theorem dX12_odds_83 : decode cX12_odds 83 = .ok (.bipush 8, 2) := by decide +kernel
theorem dX12_odds_85 : decode cX12_odds 85 = .ok (.if_icmp .ge 105, 3) := by decide +kernel
theorem dX12_odds_88 : decode cX12_odds 88 = .ok (.iload 7, 2) := by decide +kernel
theorem dX12_odds_90 : decode cX12_odds 90 = .ok (.iload 10, 2) := by decide +kernel
theorem dX12_odds_92 : decode cX12_odds 92 = .ok (.ishr, 1) := by decide +kernel
theorem dX12_odds_93 : decode cX12_odds 93 = .ok (.iconst 1, 1) := by decide +kernel
theorem dX12_odds_94 : decode cX12_odds 94 = .ok (.iand, 1) := by decide +kernel
theorem dX12_odds_95 : decode cX12_odds 95 = .ok (.iconst 1, 1) := by decide +kernel
theorem dX12_odds_96 : decode cX12_odds 96 = .ok (.if_icmp .ne 7, 3) := by decide +kernel
theorem dX12_odds_99 : decode cX12_odds 99 = .ok (.iconst 1, 1) := by decide +kernel
theorem dX12_odds_100 : decode cX12_odds 100 = .ok (.goto 4, 3) := by decide +kernel
theorem dX12_odds_103 : decode cX12_odds 103 = .ok (.iconst 0, 1) := by decide +kernel
theorem dX12_odds_104 : decode cX12_odds 104 = .ok (.istore 11, 2) := by decide +kernel
theorem dX12_odds_106 : decode cX12_odds 106 = .ok (.lload 8, 2) := by decide +kernel
theorem dX12_odds_108 : decode cX12_odds 108 = .ok (.aload_n 0, 1) := by decide +kernel
theorem dX12_odds_109 : decode cX12_odds 109 = .ok (.getfield 7, 3) := by decide +kernel
theorem dX12_odds_112 : decode cX12_odds 112 = .ok (.iload 10, 2) := by decide +kernel
theorem dX12_odds_114 : decode cX12_odds 114 = .ok (.iaload, 1) := by decide +kernel
theorem dX12_odds_115 : decode cX12_odds 115 = .ok (.ifCond .ne 7, 3) := by decide +kernel
theorem dX12_odds_118 : decode cX12_odds 118 = .ok (.lconst 1, 1) := by decide +kernel
theorem dX12_odds_119 : decode cX12_odds 119 = .ok (.goto 18, 3) := by decide +kernel
theorem dX12_odds_122 : decode cX12_odds 122 = .ok (.iload 11, 2) := by decide +kernel
theorem dX12_odds_124 : decode cX12_odds 124 = .ok (.ifCond .eq 8, 3) := by decide +kernel
theorem dX12_odds_127 : decode cX12_odds 127 = .ok (.iload_n 1, 1) := by decide +kernel
theorem dX12_odds_128 : decode cX12_odds 128 = .ok (.i2l, 1) := by decide +kernel
theorem dX12_odds_129 : decode cX12_odds 129 = .ok (.goto 8, 3) := by decide +kernel
theorem dX12_odds_132 : decode cX12_odds 132 = .ok (.bipush 10, 2) := by decide +kernel
theorem dX12_odds_134 : decode cX12_odds 134 = .ok (.iload_n 1, 1) := by decide +kernel
theorem dX12_odds_135 : decode cX12_odds 135 = .ok (.isub, 1) := by decide +kernel
theorem dX12_odds_136 : decode cX12_odds 136 = .ok (.i2l, 1) := by decide +kernel
theorem dX12_odds_137 : decode cX12_odds 137 = .ok (.lmul, 1) := by decide +kernel
theorem dX12_odds_138 : decode cX12_odds 138 = .ok (.lstore 8, 2) := by decide +kernel
theorem dX12_odds_140 : decode cX12_odds 140 = .ok (.aload_n 0, 1) := by decide +kernel
theorem dX12_odds_141 : decode cX12_odds 141 = .ok (.getfield 30, 3) := by decide +kernel
theorem dX12_odds_144 : decode cX12_odds 144 = .ok (.iload 10, 2) := by decide +kernel
theorem dX12_odds_146 : decode cX12_odds 146 = .ok (.iload 11, 2) := by decide +kernel
theorem dX12_odds_148 : decode cX12_odds 148 = .ok (.ifCond .eq 28, 3) := by decide +kernel
theorem dX12_odds_151 : decode cX12_odds 151 = .ok (.aload_n 0, 1) := by decide +kernel
theorem dX12_odds_152 : decode cX12_odds 152 = .ok (.getfield 7, 3) := by decide +kernel
theorem dX12_odds_155 : decode cX12_odds 155 = .ok (.iload 10, 2) := by decide +kernel
theorem dX12_odds_157 : decode cX12_odds 157 = .ok (.iaload, 1) := by decide +kernel
theorem dX12_odds_158 : decode cX12_odds 158 = .ok (.sipush 300, 3) := by decide +kernel
theorem dX12_odds_161 : decode cX12_odds 161 = .ok (.if_icmp .ge 15, 3) := by decide +kernel
theorem dX12_odds_164 : decode cX12_odds 164 = .ok (.aload_n 0, 1) := by decide +kernel
theorem dX12_odds_165 : decode cX12_odds 165 = .ok (.getfield 7, 3) := by decide +kernel
theorem dX12_odds_168 : decode cX12_odds 168 = .ok (.iload 10, 2) := by decide +kernel
theorem dX12_odds_170 : decode cX12_odds 170 = .ok (.iaload, 1) := by decide +kernel
theorem dX12_odds_171 : decode cX12_odds 171 = .ok (.iconst 1, 1) := by decide +kernel
theorem dX12_odds_172 : decode cX12_odds 172 = .ok (.iadd, 1) := by decide +kernel
theorem dX12_odds_173 : decode cX12_odds 173 = .ok (.goto 10, 3) := by decide +kernel
theorem dX12_odds_176 : decode cX12_odds 176 = .ok (.aload_n 0, 1) := by decide +kernel
theorem dX12_odds_177 : decode cX12_odds 177 = .ok (.getfield 7, 3) := by decide +kernel
theorem dX12_odds_180 : decode cX12_odds 180 = .ok (.iload 10, 2) := by decide +kernel
theorem dX12_odds_182 : decode cX12_odds 182 = .ok (.iaload, 1) := by decide +kernel
theorem dX12_odds_183 : decode cX12_odds 183 = .ok (.iastore, 1) := by decide +kernel
theorem dX12_odds_184 : decode cX12_odds 184 = .ok (.iinc 10 1, 3) := by decide +kernel
theorem dX12_odds_187 : decode cX12_odds 187 = .ok (.goto (-106), 3) := by decide +kernel
theorem dX12_odds_190 : decode cX12_odds 190 = .ok (.lload_n 3, 1) := by decide +kernel
theorem dX12_odds_191 : decode cX12_odds 191 = .ok (.aload_n 0, 1) := by decide +kernel
theorem dX12_odds_192 : decode cX12_odds 192 = .ok (.invokevirtual 134, 3) := by decide +kernel
theorem dX12_odds_195 : decode cX12_odds 195 = .ok (.ifCond .ne 8, 3) := by decide +kernel
theorem dX12_odds_198 : decode cX12_odds 198 = .ok (.lload 8, 2) := by decide +kernel
theorem dX12_odds_200 : decode cX12_odds 200 = .ok (.goto 4, 3) := by decide +kernel
theorem dX12_odds_203 : decode cX12_odds 203 = .ok (.lconst 0, 1) := by decide +kernel
theorem dX12_odds_204 : decode cX12_odds 204 = .ok (.ladd, 1) := by decide +kernel
theorem dX12_odds_205 : decode cX12_odds 205 = .ok (.lstore_n 3, 1) := by decide +kernel
theorem dX12_odds_206 : decode cX12_odds 206 = .ok (.iinc 7 1, 3) := by decide +kernel
theorem dX12_odds_209 : decode cX12_odds 209 = .ok (.goto (-151), 3) := by decide +kernel
theorem dX12_odds_212 : decode cX12_odds 212 = .ok (.aload_n 0, 1) := by decide +kernel
theorem dX12_odds_213 : decode cX12_odds 213 = .ok (.lload_n 3, 1) := by decide +kernel
theorem dX12_odds_214 : decode cX12_odds 214 = .ok (.lload 5, 2) := by decide +kernel
theorem dX12_odds_216 : decode cX12_odds 216 = .ok (.invokevirtual 212, 3) := by decide +kernel
theorem dX12_odds_219 : decode cX12_odds 219 = .ok (.iconst 1, 1) := by decide +kernel
theorem dX12_odds_220 : decode cX12_odds 220 = .ok (.ireturn, 1) := by decide +kernel
theorem dX12_streets_0 : decode cX12_streets 0 = .ok (.iload_n 1, 1) := by decide +kernel
theorem dX12_streets_1 : decode cX12_streets 1 = .ok (.i2l, 1) := by decide +kernel
theorem dX12_streets_2 : decode cX12_streets 2 = .ok (.lconst 0, 1) := by decide +kernel
theorem dX12_streets_3 : decode cX12_streets 3 = .ok (.ldc2_w 216, 3) := by decide +kernel
theorem dX12_streets_6 : decode cX12_streets 6 = .ok (.invokestatic 59, 3) := by decide +kernel
theorem dX12_streets_9 : decode cX12_streets 9 = .ok (.ifCond .eq 15, 3) := by decide +kernel
theorem dX12_streets_12 : decode cX12_streets 12 = .ok (.iload_n 2, 1) := by decide +kernel
theorem dX12_streets_13 : decode cX12_streets 13 = .ok (.i2l, 1) := by decide +kernel
theorem dX12_streets_14 : decode cX12_streets 14 = .ok (.lconst 0, 1) := by decide +kernel
theorem dX12_streets_15 : decode cX12_streets 15 = .ok (.ldc2_w 218, 3) := by decide +kernel
theorem dX12_streets_18 : decode cX12_streets 18 = .ok (.invokestatic 59, 3) := by decide +kernel
theorem dX12_streets_21 : decode cX12_streets 21 = .ok (.ifCond .ne 10, 3) := by decide +kernel
theorem dX12_streets_24 : decode cX12_streets 24 = .ok (.aload_n 0, 1) := by decide +kernel
theorem dX12_streets_25 : decode cX12_streets 25 = .ok (.bipush (-2), 2) := by decide +kernel
theorem dX12_streets_27 : decode cX12_streets 27 = .ok (.invokevirtual 87, 3) := by decide +kernel
theorem dX12_streets_30 : decode cX12_streets 30 = .ok (.ireturn, 1) := by decide +kernel
theorem dX12_streets_31 : decode cX12_streets 31 = .ok (.iload_n 1, 1) := by decide +kernel
theorem dX12_streets_32 : decode cX12_streets 32 = .ok (.i2l, 1) := by decide +kernel
theorem dX12_streets_33 : decode cX12_streets 33 = .ok (.lstore_n 3, 1) := by decide +kernel
theorem dX12_streets_34 : decode cX12_streets 34 = .ok (.iconst 0, 1) := by decide +kernel
theorem dX12_streets_35 : decode cX12_streets 35 = .ok (.istore 5, 2) := by decide +kernel
theorem dX12_streets_37 : decode cX12_streets 37 = .ok (.iconst 0, 1) := by decide +kernel
theorem dX12_streets_38 : decode cX12_streets 38 = .ok (.istore 6, 2) := by decide +kernel
theorem dX12_streets_40 : decode cX12_streets 40 = .ok (.iload 6, 2) := by decide +kernel
theorem dX12_streets_42 : decode cX12_streets 42 = .ok (.iload_n 2, 1) := by decide +kernel
theorem dX12_streets_43 : decode cX12_streets 43 = .ok (.if_icmp .ge 73, 3) := by decide +kernel
theorem dX12_streets_46 : decode cX12_streets 46 = .ok (.iconst 0, 1) := by decide +kernel
theorem dX12_streets_47 : decode cX12_streets 47 = .ok (.istore 7, 2) := by decide +kernel
theorem dX12_streets_49 : decode cX12_streets 49 = .ok (.iload 7, 2) := by decide +kernel
theorem dX12_streets_51 : decode cX12_streets 51 = .ok (.bipush 8, 2) := by decide +kernel
theorem dX12_streets_53 : decode cX12_streets 53 = .ok (.if_icmp .ge 40, 3) := by decide +kernel
theorem dX12_streets_56 : decode cX12_streets 56 = .ok (.lload_n 3, 1) := by decide +kernel
theorem dX12_streets_57 : decode cX12_streets 57 = .ok (.ldc2_w 220, 3) := by decide +kernel
theorem dX12_streets_60 : decode cX12_streets 60 = .ok (.lmul, 1) := by decide +kernel
theorem dX12_streets_61 : decode cX12_streets 61 = .ok (.ldc2_w 222, 3) := by decide +kernel
theorem dX12_streets_64 : decode cX12_streets 64 = .ok (.ladd, 1) := by decide +kernel
theorem dX12_streets_65 : decode cX12_streets 65 = .ok (.ldc2_w 224, 3) := by decide +kernel
theorem dX12_streets_68 : decode cX12_streets 68 = .ok (.lrem, 1) := by decide +kernel
theorem dX12_streets_69 : decode cX12_streets 69 = .ok (.lstore_n 3, 1) := by decide +kernel
theorem dX12_streets_70 : decode cX12_streets 70 = .ok (.aload_n 0, 1) := by decide +kernel
theorem dX12_streets_71 : decode cX12_streets 71 = .ok (.getfield 30, 3) := by decide +kernel
theorem dX12_streets_74 : decode cX12_streets 74 = .ok (.iload 7, 2) := by decide +kernel
theorem dX12_streets_76 : decode cX12_streets 76 = .ok (.lload_n 3, 1) := by decide +kernel
theorem dX12_streets_77 : decode cX12_streets 77 = .ok (.ldc2_w 226, 3) := by decide +kernel
theorem dX12_streets_80 : decode cX12_streets 80 = .ok (.ldiv, 1) := by decide +kernel
theorem dX12_streets_81 : decode cX12_streets 81 = .ok (.ldc2_w 228, 3) := by decide +kernel
theorem dX12_streets_84 : decode cX12_streets 84 = .ok (.lrem, 1) := by decide +kernel
theorem dX12_streets_85 : decode cX12_streets 85 = .ok (.l2i, 1) := by decide +kernel
theorem dX12_streets_86 : decode cX12_streets 86 = .ok (.iastore, 1) := by decide +kernel
theorem dX12_streets_87 : decode cX12_streets 87 = .ok (.iinc 7 1, 3) := by decide +kernel
theorem dX12_streets_90 : decode cX12_streets 90 = .ok (.goto (-41), 3) := by decide +kernel
theorem dX12_streets_93 : decode cX12_streets 93 = .ok (.iload 5, 2) := by decide +kernel
theorem dX12_streets_95 : decode cX12_streets 95 = .ok (.aload_n 0, 1) := by decide +kernel
theorem dX12_streets_96 : decode cX12_streets 96 = .ok (.invokevirtual 134, 3) := by decide +kernel
theorem dX12_streets_99 : decode cX12_streets 99 = .ok (.ifCond .ne 7, 3) := by decide +kernel
theorem dX12_streets_102 : decode cX12_streets 102 = .ok (.iconst 1, 1) := by decide +kernel
theorem dX12_streets_103 : decode cX12_streets 103 = .ok (.goto 4, 3) := by decide +kernel
theorem dX12_streets_106 : decode cX12_streets 106 = .ok (.iconst 0, 1) := by decide +kernel
theorem dX12_streets_107 : decode cX12_streets 107 = .ok (.iadd, 1) := by decide +kernel
theorem dX12_streets_108 : decode cX12_streets 108 = .ok (.istore 5, 2) := by decide +kernel
theorem dX12_streets_110 : decode cX12_streets 110 = .ok (.iinc 6 1, 3) := by decide +kernel
theorem dX12_streets_113 : decode cX12_streets 113 = .ok (.goto (-73), 3) := by decide +kernel
theorem dX12_streets_116 : decode cX12_streets 116 = .ok (.iload 5, 2) := by decide +kernel
theorem dX12_streets_118 : decode cX12_streets 118 = .ok (.ireturn, 1) := by decide +kernel
theorem dX12_type_0 : decode cX12_type 0 = .ok (.iload_n 1, 1) := by decide +kernel
theorem dX12_type_1 : decode cX12_type 1 = .ok (.i2l, 1) := by decide +kernel
theorem dX12_type_2 : decode cX12_type 2 = .ok (.lconst 0, 1) := by decide +kernel
theorem dX12_type_3 : decode cX12_type 3 = .ok (.ldc2_w 230, 3) := by decide +kernel
theorem dX12_type_6 : decode cX12_type 6 = .ok (.invokestatic 59, 3) := by decide +kernel
theorem dX12_type_9 : decode cX12_type 9 = .ok (.ifCond .ne 10, 3) := by decide +kernel
theorem dX12_type_12 : decode cX12_type 12 = .ok (.aload_n 0, 1) := by decide +kernel
theorem dX12_type_13 : decode cX12_type 13 = .ok (.bipush (-2), 2) := by decide +kernel
theorem dX12_type_15 : decode cX12_type 15 = .ok (.invokevirtual 87, 3) := by decide +kernel
theorem dX12_type_18 : decode cX12_type 18 = .ok (.ireturn, 1) := by decide +kernel
theorem dX12_type_19 : decode cX12_type 19 = .ok (.aload_n 0, 1) := by decide +kernel
theorem dX12_type_20 : decode cX12_type 20 = .ok (.getfield 232, 3) := by decide +kernel
theorem dX12_type_23 : decode cX12_type 23 = .ok (.sipush 150, 3) := by decide +kernel
theorem dX12_type_26 : decode cX12_type 26 = .ok (.if_icmp .ne 8, 3) := by decide +kernel
theorem dX12_type_29 : decode cX12_type 29 = .ok (.aload_n 0, 1) := by decide +kernel
theorem dX12_type_30 : decode cX12_type 30 = .ok (.invokevirtual 186, 3) := by decide +kernel
theorem dX12_type_33 : decode cX12_type 33 = .ok (.ireturn, 1) := by decide +kernel
theorem dX12_type_34 : decode cX12_type 34 = .ok (.aload_n 0, 1) := by decide +kernel
theorem dX12_type_35 : decode cX12_type 35 = .ok (.getfield 48, 3) := by decide +kernel
theorem dX12_type_38 : decode cX12_type 38 = .ok (.aload_n 0, 1) := by decide +kernel
theorem dX12_type_39 : decode cX12_type 39 = .ok (.getfield 232, 3) := by decide +kernel
theorem dX12_type_42 : decode cX12_type 42 = .ok (.iload_n 1, 1) := by decide +kernel
theorem dX12_type_43 : decode cX12_type 43 = .ok (.iastore, 1) := by decide +kernel
theorem dX12_type_44 : decode cX12_type 44 = .ok (.aload_n 0, 1) := by decide +kernel
theorem dX12_type_45 : decode cX12_type 45 = .ok (.dup, 1) := by decide +kernel
theorem dX12_type_46 : decode cX12_type 46 = .ok (.getfield 232, 3) := by decide +kernel
theorem dX12_type_49 : decode cX12_type 49 = .ok (.iconst 1, 1) := by decide +kernel
theorem dX12_type_50 : decode cX12_type 50 = .ok (.iadd, 1) := by decide +kernel
theorem dX12_type_51 : decode cX12_type 51 = .ok (.putfield 232, 3) := by decide +kernel
theorem dX12_type_54 : decode cX12_type 54 = .ok (.aload_n 0, 1) := by decide +kernel
theorem dX12_type_55 : decode cX12_type 55 = .ok (.getfield 232, 3) := by decide +kernel
theorem dX12_type_58 : decode cX12_type 58 = .ok (.ireturn, 1) := by decide +kernel
theorem dX12_clear_0 : decode cX12_clear 0 = .ok (.aload_n 0, 1) := by decide +kernel
theorem dX12_clear_1 : decode cX12_clear 1 = .ok (.getfield 232, 3) := by decide +kernel
theorem dX12_clear_4 : decode cX12_clear 4 = .ok (.istore_n 1, 1) := by decide +kernel
theorem dX12_clear_5 : decode cX12_clear 5 = .ok (.aload_n 0, 1) := by decide +kernel
theorem dX12_clear_6 : decode cX12_clear 6 = .ok (.iconst 0, 1) := by decide +kernel
theorem dX12_clear_7 : decode cX12_clear 7 = .ok (.putfield 232, 3) := by decide +kernel
theorem dX12_clear_10 : decode cX12_clear 10 = .ok (.iload_n 1, 1) := by decide +kernel
theorem dX12_clear_11 : decode cX12_clear 11 = .ok (.ireturn, 1) := by decide +kernel
theorem dX12_isSmall_0 : decode cX12_isSmall 0 = .ok (.iload_n 0, 1) := by decide +kernel
theorem dX12_isSmall_1 : decode cX12_isSmall 1 = .ok (.i2l, 1) := by decide +kernel
theorem dX12_isSmall_2 : decode cX12_isSmall 2 = .ok (.ldc2_w 235, 3) := by decide +kernel
theorem dX12_isSmall_5 : decode cX12_isSmall 5 = .ok (.ldc2_w 237, 3) := by decide +kernel
theorem dX12_isSmall_8 : decode cX12_isSmall 8 = .ok (.invokestatic 59, 3) := by decide +kernel
theorem dX12_isSmall_11 : decode cX12_isSmall 11 = .ok (.ireturn, 1) := by decide +kernel
theorem dX12_isFigure_0 : decode cX12_isFigure 0 = .ok (.iload_n 0, 1) := by decide +kernel
theorem dX12_isFigure_1 : decode cX12_isFigure 1 = .ok (.i2l, 1) := by decide +kernel
theorem dX12_isFigure_2 : decode cX12_isFigure 2 = .ok (.ldc2_w 239, 3) := by decide +kernel
theorem dX12_isFigure_5 : decode cX12_isFigure 5 = .ok (.ldc2_w 241, 3) := by decide +kernel
theorem dX12_isFigure_8 : decode cX12_isFigure 8 = .ok (.invokestatic 59, 3) := by decide +kernel
theorem dX12_isFigure_11 : decode cX12_isFigure 11 = .ok (.ireturn, 1) := by decide +kernel
theorem dX12_lookAt_0 : decode cX12_lookAt 0 = .ok (.aload_n 0, 1) := by decide +kernel
theorem dX12_lookAt_1 : decode cX12_lookAt 1 = .ok (.iload_n 1, 1) := by decide +kernel
theorem dX12_lookAt_2 : decode cX12_lookAt 2 = .ok (.putfield 243, 3) := by decide +kernel
theorem dX12_lookAt_5 : decode cX12_lookAt 5 = .ok (.aload_n 0, 1) := by decide +kernel
theorem dX12_lookAt_6 : decode cX12_lookAt 6 = .ok (.getfield 243, 3) := by decide +kernel
theorem dX12_lookAt_9 : decode cX12_lookAt 9 = .ok (.aload_n 0, 1) := by decide +kernel
theorem dX12_lookAt_10 : decode cX12_lookAt 10 = .ok (.getfield 232, 3) := by decide +kernel
theorem dX12_lookAt_13 : decode cX12_lookAt 13 = .ok (.if_icmp .ge 30, 3) := by decide +kernel
theorem dX12_lookAt_16 : decode cX12_lookAt 16 = .ok (.aload_n 0, 1) := by decide +kernel
theorem dX12_lookAt_17 : decode cX12_lookAt 17 = .ok (.getfield 48, 3) := by decide +kernel
theorem dX12_lookAt_20 : decode cX12_lookAt 20 = .ok (.aload_n 0, 1) := by decide +kernel
theorem dX12_lookAt_21 : decode cX12_lookAt 21 = .ok (.getfield 243, 3) := by decide +kernel
theorem dX12_lookAt_24 : decode cX12_lookAt 24 = .ok (.iaload, 1) := by decide +kernel
theorem dX12_lookAt_25 : decode cX12_lookAt 25 = .ok (.bipush 32, 2) := by decide +kernel
theorem dX12_lookAt_27 : decode cX12_lookAt 27 = .ok (.if_icmp .ne 16, 3) := by decide +kernel
theorem dX12_lookAt_30 : decode cX12_lookAt 30 = .ok (.aload_n 0, 1) := by decide +kernel
theorem dX12_lookAt_31 : decode cX12_lookAt 31 = .ok (.dup, 1) := by decide +kernel
theorem dX12_lookAt_32 : decode cX12_lookAt 32 = .ok (.getfield 243, 3) := by decide +kernel
theorem dX12_lookAt_35 : decode cX12_lookAt 35 = .ok (.iconst 1, 1) := by decide +kernel
theorem dX12_lookAt_36 : decode cX12_lookAt 36 = .ok (.iadd, 1) := by decide +kernel
theorem dX12_lookAt_37 : decode cX12_lookAt 37 = .ok (.putfield 243, 3) := by decide +kernel
theorem dX12_lookAt_40 : decode cX12_lookAt 40 = .ok (.goto (-35), 3) := by decide +kernel
theorem dX12_lookAt_43 : decode cX12_lookAt 43 = .ok (.aload_n 0, 1) := by decide +kernel
theorem dX12_lookAt_44 : decode cX12_lookAt 44 = .ok (.iconst 0, 1) := by decide +kernel
theorem dX12_lookAt_45 : decode cX12_lookAt 45 = .ok (.putfield 246, 3) := by decide +kernel
theorem dX12_lookAt_48 : decode cX12_lookAt 48 = .ok (.aload_n 0, 1) := by decide +kernel
theorem dX12_lookAt_49 : decode cX12_lookAt 49 = .ok (.iconst 0, 1) := by decide +kernel
theorem dX12_lookAt_50 : decode cX12_lookAt 50 = .ok (.putfield 249, 3) := by decide +kernel
theorem dX12_lookAt_53 : decode cX12_lookAt 53 = .ok (.aload_n 0, 1) := by decide +kernel
theorem dX12_lookAt_54 : decode cX12_lookAt 54 = .ok (.iconst 0, 1) := by decide +kernel
theorem dX12_lookAt_55 : decode cX12_lookAt 55 = .ok (.putfield 252, 3) := by decide +kernel
theorem dX12_lookAt_58 : decode cX12_lookAt 58 = .ok (.aload_n 0, 1) := by decide +kernel
theorem dX12_lookAt_59 : decode cX12_lookAt 59 = .ok (.getfield 243, 3) := by decide +kernel
theorem dX12_lookAt_62 : decode cX12_lookAt 62 = .ok (.aload_n 0, 1) := by decide +kernel
theorem dX12_lookAt_63 : decode cX12_lookAt 63 = .ok (.getfield 232, 3) := by decide +kernel
theorem dX12_lookAt_66 : decode cX12_lookAt 66 = .ok (.if_icmp .ne 4, 3) := by decide +kernel
theorem dX12_lookAt_69 : decode cX12_lookAt 69 = .ok (.return_, 1) := by decide +kernel
theorem dX12_lookAt_70 : decode cX12_lookAt 70 = .ok (.aload_n 0, 1) := by decide +kernel
theorem dX12_lookAt_71 : decode cX12_lookAt 71 = .ok (.getfield 48, 3) := by decide +kernel
theorem dX12_lookAt_74 : decode cX12_lookAt 74 = .ok (.aload_n 0, 1) := by decide +kernel
theorem dX12_lookAt_75 : decode cX12_lookAt 75 = .ok (.getfield 243, 3) := by decide +kernel
theorem dX12_lookAt_78 : decode cX12_lookAt 78 = .ok (.iaload, 1) := by decide +kernel
theorem dX12_lookAt_79 : decode cX12_lookAt 79 = .ok (.istore_n 2, 1) := by decide +kernel
theorem dX12_lookAt_80 : decode cX12_lookAt 80 = .ok (.aload_n 0, 1) := by decide +kernel
theorem dX12_lookAt_81 : decode cX12_lookAt 81 = .ok (.iload_n 2, 1) := by decide +kernel
theorem dX12_lookAt_82 : decode cX12_lookAt 82 = .ok (.invokestatic 255, 3) := by decide +kernel
theorem dX12_lookAt_85 : decode cX12_lookAt 85 = .ok (.ifCond .eq 7, 3) := by decide +kernel
theorem dX12_lookAt_88 : decode cX12_lookAt 88 = .ok (.iconst 1, 1) := by decide +kernel
theorem dX12_lookAt_89 : decode cX12_lookAt 89 = .ok (.goto 25, 3) := by decide +kernel
theorem dX12_lookAt_92 : decode cX12_lookAt 92 = .ok (.iload_n 2, 1) := by decide +kernel
theorem dX12_lookAt_93 : decode cX12_lookAt 93 = .ok (.invokestatic 258, 3) := by decide +kernel
theorem dX12_lookAt_96 : decode cX12_lookAt 96 = .ok (.ifCond .eq 7, 3) := by decide +kernel
theorem dX12_lookAt_99 : decode cX12_lookAt 99 = .ok (.iconst 2, 1) := by decide +kernel
theorem dX12_lookAt_100 : decode cX12_lookAt 100 = .ok (.goto 14, 3) := by decide +kernel
theorem dX12_lookAt_103 : decode cX12_lookAt 103 = .ok (.iload_n 2, 1) := by decide +kernel
theorem dX12_lookAt_104 : decode cX12_lookAt 104 = .ok (.bipush 59, 2) := by decide +kernel
theorem dX12_lookAt_106 : decode cX12_lookAt 106 = .ok (.if_icmp .ne 7, 3) := by decide +kernel
theorem dX12_lookAt_109 : decode cX12_lookAt 109 = .ok (.iconst 3, 1) := by decide +kernel
theorem dX12_lookAt_110 : decode cX12_lookAt 110 = .ok (.goto 4, 3) := by decide +kernel
theorem dX12_lookAt_113 : decode cX12_lookAt 113 = .ok (.iconst 4, 1) := by decide +kernel
theorem dX12_lookAt_114 : decode cX12_lookAt 114 = .ok (.putfield 249, 3) := by decide +kernel
theorem dX12_lookAt_117 : decode cX12_lookAt 117 = .ok (.aload_n 0, 1) := by decide +kernel
theorem dX12_lookAt_118 : decode cX12_lookAt 118 = .ok (.iconst 1, 1) := by decide +kernel
theorem dX12_lookAt_119 : decode cX12_lookAt 119 = .ok (.putfield 246, 3) := by decide +kernel
theorem dX12_lookAt_122 : decode cX12_lookAt 122 = .ok (.aload_n 0, 1) := by decide +kernel
theorem dX12_lookAt_123 : decode cX12_lookAt 123 = .ok (.getfield 249, 3) := by decide +kernel
theorem dX12_lookAt_126 : decode cX12_lookAt 126 = .ok (.iconst 3, 1) := by decide +kernel
theorem dX12_lookAt_127 : decode cX12_lookAt 127 = .ok (.if_icmp .ge 7, 3) := by decide +kernel
theorem dX12_lookAt_130 : decode cX12_lookAt 130 = .ok (.iconst 1, 1) := by decide +kernel
theorem dX12_lookAt_131 : decode cX12_lookAt 131 = .ok (.goto 4, 3) := by decide +kernel
theorem dX12_lookAt_134 : decode cX12_lookAt 134 = .ok (.iconst 0, 1) := by decide +kernel
theorem dX12_lookAt_135 : decode cX12_lookAt 135 = .ok (.istore_n 3, 1) := by decide +kernel
theorem dX12_lookAt_136 : decode cX12_lookAt 136 = .ok (.iload_n 3, 1) := by decide +kernel
theorem dX12_lookAt_137 : decode cX12_lookAt 137 = .ok (.ifCond .eq 78, 3) := by decide +kernel
theorem dX12_lookAt_140 : decode cX12_lookAt 140 = .ok (.aload_n 0, 1) := by decide +kernel
theorem dX12_lookAt_141 : decode cX12_lookAt 141 = .ok (.getfield 243, 3) := by decide +kernel
theorem dX12_lookAt_144 : decode cX12_lookAt 144 = .ok (.aload_n 0, 1) := by decide +kernel
theorem dX12_lookAt_145 : decode cX12_lookAt 145 = .ok (.getfield 246, 3) := by decide +kernel
theorem dX12_lookAt_148 : decode cX12_lookAt 148 = .ok (.iadd, 1) := by decide +kernel
theorem dX12_lookAt_149 : decode cX12_lookAt 149 = .ok (.aload_n 0, 1) := by decide +kernel
theorem dX12_lookAt_150 : decode cX12_lookAt 150 = .ok (.getfield 232, 3) := by decide +kernel
theorem dX12_lookAt_153 : decode cX12_lookAt 153 = .ok (.if_icmp .ge 62, 3) := by decide +kernel
theorem dX12_lookAt_156 : decode cX12_lookAt 156 = .ok (.aload_n 0, 1) := by decide +kernel
theorem dX12_lookAt_157 : decode cX12_lookAt 157 = .ok (.getfield 48, 3) := by decide +kernel
theorem dX12_lookAt_160 : decode cX12_lookAt 160 = .ok (.aload_n 0, 1) := by decide +kernel
theorem dX12_lookAt_161 : decode cX12_lookAt 161 = .ok (.getfield 243, 3) := by decide +kernel
theorem dX12_lookAt_164 : decode cX12_lookAt 164 = .ok (.aload_n 0, 1) := by decide +kernel
theorem dX12_lookAt_165 : decode cX12_lookAt 165 = .ok (.getfield 246, 3) := by decide +kernel
theorem dX12_lookAt_168 : decode cX12_lookAt 168 = .ok (.iadd, 1) := by decide +kernel
theorem dX12_lookAt_169 : decode cX12_lookAt 169 = .ok (.iaload, 1) := by decide +kernel
theorem dX12_lookAt_170 : decode cX12_lookAt 170 = .ok (.istore 4, 2) := by decide +kernel
theorem dX12_lookAt_172 : decode cX12_lookAt 172 = .ok (.aload_n 0, 1) := by decide +kernel
theorem dX12_lookAt_173 : decode cX12_lookAt 173 = .ok (.getfield 249, 3) := by decide +kernel
theorem dX12_lookAt_176 : decode cX12_lookAt 176 = .ok (.iconst 1, 1) := by decide +kernel
theorem dX12_lookAt_177 : decode cX12_lookAt 177 = .ok (.if_icmp .ne 11, 3) := by decide +kernel
theorem dX12_lookAt_180 : decode cX12_lookAt 180 = .ok (.iload 4, 2) := by decide +kernel
theorem dX12_lookAt_182 : decode cX12_lookAt 182 = .ok (.invokestatic 255, 3) := by decide +kernel
theorem dX12_lookAt_185 : decode cX12_lookAt 185 = .ok (.goto 8, 3) := by decide +kernel
theorem dX12_lookAt_188 : decode cX12_lookAt 188 = .ok (.iload 4, 2) := by decide +kernel
theorem dX12_lookAt_190 : decode cX12_lookAt 190 = .ok (.invokestatic 258, 3) := by decide +kernel
theorem dX12_lookAt_193 : decode cX12_lookAt 193 = .ok (.istore_n 3, 1) := by decide +kernel
theorem dX12_lookAt_194 : decode cX12_lookAt 194 = .ok (.aload_n 0, 1) := by decide +kernel
theorem dX12_lookAt_195 : decode cX12_lookAt 195 = .ok (.dup, 1) := by decide +kernel
theorem dX12_lookAt_196 : decode cX12_lookAt 196 = .ok (.getfield 246, 3) := by decide +kernel
theorem dX12_lookAt_199 : decode cX12_lookAt 199 = .ok (.iload_n 3, 1) := by decide +kernel
theorem dX12_lookAt_200 : decode cX12_lookAt 200 = .ok (.ifCond .eq 7, 3) := by decide +kernel
theorem dX12_lookAt_203 : decode cX12_lookAt 203 = .ok (.iconst 1, 1) := by decide +kernel
theorem dX12_lookAt_204 : decode cX12_lookAt 204 = .ok (.goto 4, 3) := by decide +kernel
theorem dX12_lookAt_207 : decode cX12_lookAt 207 = .ok (.iconst 0, 1) := by decide +kernel
theorem dX12_lookAt_208 : decode cX12_lookAt 208 = .ok (.iadd, 1) := by decide +kernel
theorem dX12_lookAt_209 : decode cX12_lookAt 209 = .ok (.putfield 246, 3) := by decide +kernel
theorem dX12_lookAt_212 : decode cX12_lookAt 212 = .ok (.goto (-76), 3) := by decide +kernel
theorem dX12_lookAt_215 : decode cX12_lookAt 215 = .ok (.iconst 0, 1) := by decide +kernel
theorem dX12_lookAt_216 : decode cX12_lookAt 216 = .ok (.istore 4, 2) := by decide +kernel
theorem dX12_lookAt_218 : decode cX12_lookAt 218 = .ok (.iload 4, 2) := by decide +kernel
theorem dX12_lookAt_220 : decode cX12_lookAt 220 = .ok (.aload_n 0, 1) := by decide +kernel
theorem dX12_lookAt_221 : decode cX12_lookAt 221 = .ok (.getfield 246, 3) := by decide +kernel
theorem dX12_lookAt_224 : decode cX12_lookAt 224 = .ok (.if_icmp .ge 50, 3) := by decide +kernel
theorem dX12_lookAt_227 : decode cX12_lookAt 227 = .ok (.iload 4, 2) := by decide +kernel
theorem dX12_lookAt_229 : decode cX12_lookAt 229 = .ok (.iconst 3, 1) := by decide +kernel
theorem dX12_lookAt_230 : decode cX12_lookAt 230 = .ok (.if_icmp .ge 44, 3) := by decide +kernel
theorem dX12_lookAt_233 : decode cX12_lookAt 233 = .ok (.aload_n 0, 1) := by decide +kernel
theorem dX12_lookAt_234 : decode cX12_lookAt 234 = .ok (.getfield 249, 3) := by decide +kernel
theorem dX12_lookAt_237 : decode cX12_lookAt 237 = .ok (.iconst 2, 1) := by decide +kernel
theorem dX12_lookAt_238 : decode cX12_lookAt 238 = .ok (.if_icmp .ne 36, 3) := by decide +kernel
theorem dX12_lookAt_241 : decode cX12_lookAt 241 = .ok (.aload_n 0, 1) := by decide +kernel
theorem dX12_lookAt_242 : decode cX12_lookAt 242 = .ok (.bipush 10, 2) := by decide +kernel
theorem dX12_lookAt_244 : decode cX12_lookAt 244 = .ok (.aload_n 0, 1) := by decide +kernel
theorem dX12_lookAt_245 : decode cX12_lookAt 245 = .ok (.getfield 252, 3) := by decide +kernel
theorem dX12_lookAt_248 : decode cX12_lookAt 248 = .ok (.imul, 1) := by decide +kernel
theorem dX12_lookAt_249 : decode cX12_lookAt 249 = .ok (.aload_n 0, 1) := by decide +kernel
theorem dX12_lookAt_250 : decode cX12_lookAt 250 = .ok (.getfield 48, 3) := by decide +kernel
theorem dX12_lookAt_253 : decode cX12_lookAt 253 = .ok (.aload_n 0, 1) := by decide +kernel
theorem dX12_lookAt_254 : decode cX12_lookAt 254 = .ok (.getfield 243, 3) := by decide +kernel
theorem dX12_lookAt_257 : decode cX12_lookAt 257 = .ok (.iload 4, 2) := by decide +kernel
theorem dX12_lookAt_259 : decode cX12_lookAt 259 = .ok (.iadd, 1) := by decide +kernel
theorem dX12_lookAt_260 : decode cX12_lookAt 260 = .ok (.iaload, 1) := by decide +kernel
theorem dX12_lookAt_261 : decode cX12_lookAt 261 = .ok (.iadd, 1) := by decide +kernel
theorem dX12_lookAt_262 : decode cX12_lookAt 262 = .ok (.bipush 48, 2) := by decide +kernel
theorem dX12_lookAt_264 : decode cX12_lookAt 264 = .ok (.isub, 1) := by decide +kernel
theorem dX12_lookAt_265 : decode cX12_lookAt 265 = .ok (.putfield 252, 3) := by decide +kernel
theorem dX12_lookAt_268 : decode cX12_lookAt 268 = .ok (.iinc 4 1, 3) := by decide +kernel
theorem dX12_lookAt_271 : decode cX12_lookAt 271 = .ok (.goto (-53), 3) := by decide +kernel
theorem dX12_lookAt_274 : decode cX12_lookAt 274 = .ok (.aload_n 0, 1) := by decide +kernel
theorem dX12_lookAt_275 : decode cX12_lookAt 275 = .ok (.aload_n 0, 1) := by decide +kernel
theorem dX12_lookAt_276 : decode cX12_lookAt 276 = .ok (.getfield 249, 3) := by decide +kernel
theorem dX12_lookAt_279 : decode cX12_lookAt 279 = .ok (.iconst 2, 1) := by decide +kernel
theorem dX12_lookAt_280 : decode cX12_lookAt 280 = .ok (.if_icmp .ne 15, 3) := by decide +kernel
theorem dX12_lookAt_283 : decode cX12_lookAt 283 = .ok (.aload_n 0, 1) := by decide +kernel
theorem dX12_lookAt_284 : decode cX12_lookAt 284 = .ok (.getfield 246, 3) := by decide +kernel
theorem dX12_lookAt_287 : decode cX12_lookAt 287 = .ok (.iconst 3, 1) := by decide +kernel
theorem dX12_lookAt_288 : decode cX12_lookAt 288 = .ok (.if_icmp .le 7, 3) := by decide +kernel
theorem dX12_lookAt_291 : decode cX12_lookAt 291 = .ok (.iconst 4, 1) := by decide +kernel
theorem dX12_lookAt_292 : decode cX12_lookAt 292 = .ok (.goto 7, 3) := by decide +kernel
theorem dX12_lookAt_295 : decode cX12_lookAt 295 = .ok (.aload_n 0, 1) := by decide +kernel
theorem dX12_lookAt_296 : decode cX12_lookAt 296 = .ok (.getfield 249, 3) := by decide +kernel
theorem dX12_lookAt_299 : decode cX12_lookAt 299 = .ok (.putfield 249, 3) := by decide +kernel
theorem dX12_lookAt_302 : decode cX12_lookAt 302 = .ok (.return_, 1) := by decide +kernel
theorem dX12_goBehind_0 : decode cX12_goBehind 0 = .ok (.aload_n 0, 1) := by decide +kernel
theorem dX12_goBehind_1 : decode cX12_goBehind 1 = .ok (.aload_n 0, 1) := by decide +kernel
theorem dX12_goBehind_2 : decode cX12_goBehind 2 = .ok (.getfield 243, 3) := by decide +kernel
theorem dX12_goBehind_5 : decode cX12_goBehind 5 = .ok (.aload_n 0, 1) := by decide +kernel
theorem dX12_goBehind_6 : decode cX12_goBehind 6 = .ok (.getfield 246, 3) := by decide +kernel
theorem dX12_goBehind_9 : decode cX12_goBehind 9 = .ok (.iadd, 1) := by decide +kernel
theorem dX12_goBehind_10 : decode cX12_goBehind 10 = .ok (.invokevirtual 261, 3) := by decide +kernel
theorem dX12_goBehind_13 : decode cX12_goBehind 13 = .ok (.return_, 1) := by decide +kernel
theorem dX12_isWord_0 : decode cX12_isWord 0 = .ok (.aload_n 0, 1) := by decide +kernel
theorem dX12_isWord_1 : decode cX12_isWord 1 = .ok (.getfield 249, 3) := by decide +kernel
theorem dX12_isWord_4 : decode cX12_isWord 4 = .ok (.iconst 1, 1) := by decide +kernel
theorem dX12_isWord_5 : decode cX12_isWord 5 = .ok (.if_icmp .ne 15, 3) := by decide +kernel
theorem dX12_isWord_8 : decode cX12_isWord 8 = .ok (.aload_n 0, 1) := by decide +kernel
theorem dX12_isWord_9 : decode cX12_isWord 9 = .ok (.getfield 246, 3) := by decide +kernel
theorem dX12_isWord_12 : decode cX12_isWord 12 = .ok (.iload_n 1, 1) := by decide +kernel
theorem dX12_isWord_13 : decode cX12_isWord 13 = .ok (.if_icmp .ne 7, 3) := by decide +kernel
theorem dX12_isWord_16 : decode cX12_isWord 16 = .ok (.iconst 1, 1) := by decide +kernel
theorem dX12_isWord_17 : decode cX12_isWord 17 = .ok (.goto 4, 3) := by decide +kernel
theorem dX12_isWord_20 : decode cX12_isWord 20 = .ok (.iconst 0, 1) := by decide +kernel
theorem dX12_isWord_21 : decode cX12_isWord 21 = .ok (.istore 8, 2) := by decide +kernel
theorem dX12_isWord_23 : decode cX12_isWord 23 = .ok (.iconst 0, 1) := by decide +kernel
theorem dX12_isWord_24 : decode cX12_isWord 24 = .ok (.istore 9, 2) := by decide +kernel
theorem dX12_isWord_26 : decode cX12_isWord 26 = .ok (.iload 9, 2) := by decide +kernel
theorem dX12_isWord_28 : decode cX12_isWord 28 = .ok (.iload_n 1, 1) := by decide +kernel
theorem dX12_isWord_29 : decode cX12_isWord 29 = .ok (.if_icmp .ge 90, 3) := by decide +kernel
theorem dX12_isWord_32 : decode cX12_isWord 32 = .ok (.iload 8, 2) := by decide +kernel
theorem dX12_isWord_34 : decode cX12_isWord 34 = .ok (.ifCond .eq 85, 3) := by decide +kernel
theorem dX12_isWord_37 : decode cX12_isWord 37 = .ok (.aload_n 0, 1) := by decide +kernel
theorem dX12_isWord_38 : decode cX12_isWord 38 = .ok (.getfield 48, 3) := by decide +kernel
theorem dX12_isWord_41 : decode cX12_isWord 41 = .ok (.aload_n 0, 1) := by decide +kernel
theorem dX12_isWord_42 : decode cX12_isWord 42 = .ok (.getfield 243, 3) := by decide +kernel
theorem dX12_isWord_45 : decode cX12_isWord 45 = .ok (.iload 9, 2) := by decide +kernel
theorem dX12_isWord_47 : decode cX12_isWord 47 = .ok (.iadd, 1) := by decide +kernel
theorem dX12_isWord_48 : decode cX12_isWord 48 = .ok (.iaload, 1) := by decide +kernel
theorem dX12_isWord_49 : decode cX12_isWord 49 = .ok (.iload 9, 2) := by decide +kernel
theorem dX12_isWord_51 : decode cX12_isWord 51 = .ok (.ifCond .ne 7, 3) := by decide +kernel
theorem dX12_isWord_54 : decode cX12_isWord 54 = .ok (.iload_n 2, 1) := by decide +kernel
theorem dX12_isWord_55 : decode cX12_isWord 55 = .ok (.goto 48, 3) := by decide +kernel
theorem dX12_isWord_58 : decode cX12_isWord 58 = .ok (.iload 9, 2) := by decide +kernel
theorem dX12_isWord_60 : decode cX12_isWord 60 = .ok (.iconst 1, 1) := by decide +kernel
theorem dX12_isWord_61 : decode cX12_isWord 61 = .ok (.if_icmp .ne 7, 3) := by decide +kernel
theorem dX12_isWord_64 : decode cX12_isWord 64 = .ok (.iload_n 3, 1) := by decide +kernel
theorem dX12_isWord_65 : decode cX12_isWord 65 = .ok (.goto 38, 3) := by decide +kernel
theorem dX12_isWord_68 : decode cX12_isWord 68 = .ok (.iload 9, 2) := by decide +kernel
theorem dX12_isWord_70 : decode cX12_isWord 70 = .ok (.iconst 2, 1) := by decide +kernel
theorem dX12_isWord_71 : decode cX12_isWord 71 = .ok (.if_icmp .ne 8, 3) := by decide +kernel
theorem dX12_isWord_74 : decode cX12_isWord 74 = .ok (.iload 4, 2) := by decide +kernel
theorem dX12_isWord_76 : decode cX12_isWord 76 = .ok (.goto 27, 3) := by decide +kernel
theorem dX12_isWord_79 : decode cX12_isWord 79 = .ok (.iload 9, 2) := by decide +kernel
theorem dX12_isWord_81 : decode cX12_isWord 81 = .ok (.iconst 3, 1) := by decide +kernel
theorem dX12_isWord_82 : decode cX12_isWord 82 = .ok (.if_icmp .ne 8, 3) := by decide +kernel
theorem dX12_isWord_85 : decode cX12_isWord 85 = .ok (.iload 5, 2) := by decide +kernel
theorem dX12_isWord_87 : decode cX12_isWord 87 = .ok (.goto 16, 3) := by decide +kernel
theorem dX12_isWord_90 : decode cX12_isWord 90 = .ok (.iload 9, 2) := by decide +kernel
theorem dX12_isWord_92 : decode cX12_isWord 92 = .ok (.iconst 4, 1) := by decide +kernel
theorem dX12_isWord_93 : decode cX12_isWord 93 = .ok (.if_icmp .ne 8, 3) := by decide +kernel
theorem dX12_isWord_96 : decode cX12_isWord 96 = .ok (.iload 6, 2) := by decide +kernel
theorem dX12_isWord_98 : decode cX12_isWord 98 = .ok (.goto 5, 3) := by decide +kernel
theorem dX12_isWord_101 : decode cX12_isWord 101 = .ok (.iload 7, 2) := by decide +kernel
theorem dX12_isWord_103 : decode cX12_isWord 103 = .ok (.if_icmp .ne 7, 3) := by decide +kernel
theorem dX12_isWord_106 : decode cX12_isWord 106 = .ok (.iconst 1, 1) := by decide +kernel
theorem dX12_isWord_107 : decode cX12_isWord 107 = .ok (.goto 4, 3) := by decide +kernel
theorem dX12_isWord_110 : decode cX12_isWord 110 = .ok (.iconst 0, 1) := by decide +kernel
theorem dX12_isWord_111 : decode cX12_isWord 111 = .ok (.istore 8, 2) := by decide +kernel
theorem dX12_isWord_113 : decode cX12_isWord 113 = .ok (.iinc 9 1, 3) := by decide +kernel
theorem dX12_isWord_116 : decode cX12_isWord 116 = .ok (.goto (-90), 3) := by decide +kernel
theorem dX12_isWord_119 : decode cX12_isWord 119 = .ok (.iload 8, 2) := by decide +kernel
theorem dX12_isWord_121 : decode cX12_isWord 121 = .ok (.ireturn, 1) := by decide +kernel
theorem dX12_takes_0 : decode cX12_takes 0 = .ok (.aload_n 0, 1) := by decide +kernel
theorem dX12_takes_1 : decode cX12_takes 1 = .ok (.getfield 249, 3) := by decide +kernel
theorem dX12_takes_4 : decode cX12_takes 4 = .ok (.iconst 2, 1) := by decide +kernel
theorem dX12_takes_5 : decode cX12_takes 5 = .ok (.if_icmp .ne 18, 3) := by decide +kernel
theorem dX12_takes_8 : decode cX12_takes 8 = .ok (.aload_n 0, 1) := by decide +kernel
theorem dX12_takes_9 : decode cX12_takes 9 = .ok (.getfield 252, 3) := by decide +kernel
theorem dX12_takes_12 : decode cX12_takes 12 = .ok (.i2l, 1) := by decide +kernel
theorem dX12_takes_13 : decode cX12_takes 13 = .ok (.iload_n 2, 1) := by decide +kernel
theorem dX12_takes_14 : decode cX12_takes 14 = .ok (.i2l, 1) := by decide +kernel
theorem dX12_takes_15 : decode cX12_takes 15 = .ok (.iload_n 3, 1) := by decide +kernel
theorem dX12_takes_16 : decode cX12_takes 16 = .ok (.i2l, 1) := by decide +kernel
theorem dX12_takes_17 : decode cX12_takes 17 = .ok (.invokestatic 59, 3) := by decide +kernel
theorem dX12_takes_20 : decode cX12_takes 20 = .ok (.ifCond .ne 5, 3) := by decide +kernel
theorem dX12_takes_23 : decode cX12_takes 23 = .ok (.iconst 0, 1) := by decide +kernel
theorem dX12_takes_24 : decode cX12_takes 24 = .ok (.ireturn, 1) := by decide +kernel
theorem dX12_takes_25 : decode cX12_takes 25 = .ok (.aload_n 0, 1) := by decide +kernel
theorem dX12_takes_26 : decode cX12_takes 26 = .ok (.getfield 54, 3) := by decide +kernel
theorem dX12_takes_29 : decode cX12_takes 29 = .ok (.iload_n 1, 1) := by decide +kernel
theorem dX12_takes_30 : decode cX12_takes 30 = .ok (.aload_n 0, 1) := by decide +kernel
theorem dX12_takes_31 : decode cX12_takes 31 = .ok (.getfield 252, 3) := by decide +kernel
theorem dX12_takes_34 : decode cX12_takes 34 = .ok (.iastore, 1) := by decide +kernel
theorem dX12_takes_35 : decode cX12_takes 35 = .ok (.aload_n 0, 1) := by decide +kernel
theorem dX12_takes_36 : decode cX12_takes 36 = .ok (.invokevirtual 265, 3) := by decide +kernel
theorem dX12_takes_39 : decode cX12_takes 39 = .ok (.iconst 1, 1) := by decide +kernel
theorem dX12_takes_40 : decode cX12_takes 40 = .ok (.ireturn, 1) := by decide +kernel
theorem dX12_takesFirst_0 : decode cX12_takesFirst 0 = .ok (.aload_n 0, 1) := by decide +kernel
theorem dX12_takesFirst_1 : decode cX12_takesFirst 1 = .ok (.bipush 6, 2) := by decide +kernel
theorem dX12_takesFirst_3 : decode cX12_takesFirst 3 = .ok (.bipush 115, 2) := by decide +kernel
theorem dX12_takesFirst_5 : decode cX12_takesFirst 5 = .ok (.bipush 116, 2) := by decide +kernel
theorem dX12_takesFirst_7 : decode cX12_takesFirst 7 = .ok (.bipush 114, 2) := by decide +kernel
theorem dX12_takesFirst_9 : decode cX12_takesFirst 9 = .ok (.bipush 101, 2) := by decide +kernel
theorem dX12_takesFirst_11 : decode cX12_takesFirst 11 = .ok (.bipush 101, 2) := by decide +kernel
theorem dX12_takesFirst_13 : decode cX12_takesFirst 13 = .ok (.bipush 116, 2) := by decide +kernel
theorem dX12_takesFirst_15 : decode cX12_takesFirst 15 = .ok (.invokevirtual 268, 3) := by decide +kernel
theorem dX12_takesFirst_18 : decode cX12_takesFirst 18 = .ok (.ifCond .ne 5, 3) := by decide +kernel
theorem dX12_takesFirst_21 : decode cX12_takesFirst 21 = .ok (.iconst 0, 1) := by decide +kernel
theorem dX12_takesFirst_22 : decode cX12_takesFirst 22 = .ok (.ireturn, 1) := by decide +kernel
theorem dX12_takesFirst_23 : decode cX12_takesFirst 23 = .ok (.aload_n 0, 1) := by decide +kernel
theorem dX12_takesFirst_24 : decode cX12_takesFirst 24 = .ok (.invokevirtual 265, 3) := by decide +kernel
theorem dX12_takesFirst_27 : decode cX12_takesFirst 27 = .ok (.aload_n 0, 1) := by decide +kernel
theorem dX12_takesFirst_28 : decode cX12_takesFirst 28 = .ok (.iconst 0, 1) := by decide +kernel
theorem dX12_takesFirst_29 : decode cX12_takesFirst 29 = .ok (.iconst 0, 1) := by decide +kernel
theorem dX12_takesFirst_30 : decode cX12_takesFirst 30 = .ok (.iconst 5, 1) := by decide +kernel
theorem dX12_takesFirst_31 : decode cX12_takesFirst 31 = .ok (.invokevirtual 272, 3) := by decide +kernel
theorem dX12_takesFirst_34 : decode cX12_takesFirst 34 = .ok (.ifCond .eq 14, 3) := by decide +kernel
theorem dX12_takesFirst_37 : decode cX12_takesFirst 37 = .ok (.aload_n 0, 1) := by decide +kernel
theorem dX12_takesFirst_38 : decode cX12_takesFirst 38 = .ok (.iconst 1, 1) := by decide +kernel
theorem dX12_takesFirst_39 : decode cX12_takesFirst 39 = .ok (.iconst 0, 1) := by decide +kernel
theorem dX12_takesFirst_40 : decode cX12_takesFirst 40 = .ok (.bipush 9, 2) := by decide +kernel
theorem dX12_takesFirst_42 : decode cX12_takesFirst 42 = .ok (.invokevirtual 272, 3) := by decide +kernel
theorem dX12_takesFirst_45 : decode cX12_takesFirst 45 = .ok (.ifCond .ne 5, 3) := by decide +kernel
theorem dX12_takesFirst_48 : decode cX12_takesFirst 48 = .ok (.iconst 0, 1) := by decide +kernel
theorem dX12_takesFirst_49 : decode cX12_takesFirst 49 = .ok (.ireturn, 1) := by decide +kernel
theorem dX12_takesFirst_50 : decode cX12_takesFirst 50 = .ok (.aload_n 0, 1) := by decide +kernel
theorem dX12_takesFirst_51 : decode cX12_takesFirst 51 = .ok (.getfield 51, 3) := by decide +kernel
theorem dX12_takesFirst_54 : decode cX12_takesFirst 54 = .ok (.aload_n 0, 1) := by decide +kernel
theorem dX12_takesFirst_55 : decode cX12_takesFirst 55 = .ok (.getfield 54, 3) := by decide +kernel
theorem dX12_takesFirst_58 : decode cX12_takesFirst 58 = .ok (.iconst 0, 1) := by decide +kernel
theorem dX12_takesFirst_59 : decode cX12_takesFirst 59 = .ok (.iaload, 1) := by decide +kernel
theorem dX12_takesFirst_60 : decode cX12_takesFirst 60 = .ok (.aload_n 0, 1) := by decide +kernel
theorem dX12_takesFirst_61 : decode cX12_takesFirst 61 = .ok (.getfield 54, 3) := by decide +kernel
theorem dX12_takesFirst_64 : decode cX12_takesFirst 64 = .ok (.iconst 1, 1) := by decide +kernel
theorem dX12_takesFirst_65 : decode cX12_takesFirst 65 = .ok (.iaload, 1) := by decide +kernel
theorem dX12_takesFirst_66 : decode cX12_takesFirst 66 = .ok (.invokestatic 98, 3) := by decide +kernel
theorem dX12_takesFirst_69 : decode cX12_takesFirst 69 = .ok (.aload_n 0, 1) := by decide +kernel
theorem dX12_takesFirst_70 : decode cX12_takesFirst 70 = .ok (.getfield 249, 3) := by decide +kernel
theorem dX12_takesFirst_73 : decode cX12_takesFirst 73 = .ok (.iconst 3, 1) := by decide +kernel
theorem dX12_takesFirst_74 : decode cX12_takesFirst 74 = .ok (.if_icmp .ne 7, 3) := by decide +kernel
theorem dX12_takesFirst_77 : decode cX12_takesFirst 77 = .ok (.iconst 1, 1) := by decide +kernel
theorem dX12_takesFirst_78 : decode cX12_takesFirst 78 = .ok (.goto 4, 3) := by decide +kernel
theorem dX12_takesFirst_81 : decode cX12_takesFirst 81 = .ok (.iconst 0, 1) := by decide +kernel
theorem dX12_takesFirst_82 : decode cX12_takesFirst 82 = .ok (.ireturn, 1) := by decide +kernel
theorem dX12_takesHouse_0 : decode cX12_takesHouse 0 = .ok (.aload_n 0, 1) := by decide +kernel
theorem dX12_takesHouse_1 : decode cX12_takesHouse 1 = .ok (.iconst 5, 1) := by decide +kernel
theorem dX12_takesHouse_2 : decode cX12_takesHouse 2 = .ok (.bipush 104, 2) := by decide +kernel
theorem dX12_takesHouse_4 : decode cX12_takesHouse 4 = .ok (.bipush 111, 2) := by decide +kernel
theorem dX12_takesHouse_6 : decode cX12_takesHouse 6 = .ok (.bipush 117, 2) := by decide +kernel
theorem dX12_takesHouse_8 : decode cX12_takesHouse 8 = .ok (.bipush 115, 2) := by decide +kernel
theorem dX12_takesHouse_10 : decode cX12_takesHouse 10 = .ok (.bipush 101, 2) := by decide +kernel
theorem dX12_takesHouse_12 : decode cX12_takesHouse 12 = .ok (.iconst 0, 1) := by decide +kernel
theorem dX12_takesHouse_13 : decode cX12_takesHouse 13 = .ok (.invokevirtual 268, 3) := by decide +kernel
theorem dX12_takesHouse_16 : decode cX12_takesHouse 16 = .ok (.ifCond .ne 5, 3) := by decide +kernel
theorem dX12_takesHouse_19 : decode cX12_takesHouse 19 = .ok (.iconst 0, 1) := by decide +kernel
theorem dX12_takesHouse_20 : decode cX12_takesHouse 20 = .ok (.ireturn, 1) := by decide +kernel
theorem dX12_takesHouse_21 : decode cX12_takesHouse 21 = .ok (.aload_n 0, 1) := by decide +kernel
theorem dX12_takesHouse_22 : decode cX12_takesHouse 22 = .ok (.invokevirtual 265, 3) := by decide +kernel
theorem dX12_takesHouse_25 : decode cX12_takesHouse 25 = .ok (.aload_n 0, 1) := by decide +kernel
theorem dX12_takesHouse_26 : decode cX12_takesHouse 26 = .ok (.iconst 0, 1) := by decide +kernel
theorem dX12_takesHouse_27 : decode cX12_takesHouse 27 = .ok (.iconst 0, 1) := by decide +kernel
theorem dX12_takesHouse_28 : decode cX12_takesHouse 28 = .ok (.bipush 7, 2) := by decide +kernel
theorem dX12_takesHouse_30 : decode cX12_takesHouse 30 = .ok (.invokevirtual 272, 3) := by decide +kernel
theorem dX12_takesHouse_33 : decode cX12_takesHouse 33 = .ok (.ifCond .eq 15, 3) := by decide +kernel
theorem dX12_takesHouse_36 : decode cX12_takesHouse 36 = .ok (.aload_n 0, 1) := by decide +kernel
theorem dX12_takesHouse_37 : decode cX12_takesHouse 37 = .ok (.iconst 1, 1) := by decide +kernel
theorem dX12_takesHouse_38 : decode cX12_takesHouse 38 = .ok (.iconst 0, 1) := by decide +kernel
theorem dX12_takesHouse_39 : decode cX12_takesHouse 39 = .ok (.sipush 300, 3) := by decide +kernel
theorem dX12_takesHouse_42 : decode cX12_takesHouse 42 = .ok (.invokevirtual 272, 3) := by decide +kernel
theorem dX12_takesHouse_45 : decode cX12_takesHouse 45 = .ok (.ifCond .ne 5, 3) := by decide +kernel
theorem dX12_takesHouse_48 : decode cX12_takesHouse 48 = .ok (.iconst 0, 1) := by decide +kernel
theorem dX12_takesHouse_49 : decode cX12_takesHouse 49 = .ok (.ireturn, 1) := by decide +kernel
theorem dX12_takesHouse_50 : decode cX12_takesHouse 50 = .ok (.aload_n 0, 1) := by decide +kernel
theorem dX12_takesHouse_51 : decode cX12_takesHouse 51 = .ok (.getfield 51, 3) := by decide +kernel
theorem dX12_takesHouse_54 : decode cX12_takesHouse 54 = .ok (.aload_n 0, 1) := by decide +kernel
theorem dX12_takesHouse_55 : decode cX12_takesHouse 55 = .ok (.getfield 54, 3) := by decide +kernel
theorem dX12_takesHouse_58 : decode cX12_takesHouse 58 = .ok (.iconst 0, 1) := by decide +kernel
theorem dX12_takesHouse_59 : decode cX12_takesHouse 59 = .ok (.iaload, 1) := by decide +kernel
theorem dX12_takesHouse_60 : decode cX12_takesHouse 60 = .ok (.aload_n 0, 1) := by decide +kernel
theorem dX12_takesHouse_61 : decode cX12_takesHouse 61 = .ok (.getfield 54, 3) := by decide +kernel
theorem dX12_takesHouse_64 : decode cX12_takesHouse 64 = .ok (.iconst 1, 1) := by decide +kernel
theorem dX12_takesHouse_65 : decode cX12_takesHouse 65 = .ok (.iaload, 1) := by decide +kernel
theorem dX12_takesHouse_66 : decode cX12_takesHouse 66 = .ok (.iastore, 1) := by decide +kernel
theorem dX12_takesHouse_67 : decode cX12_takesHouse 67 = .ok (.iconst 1, 1) := by decide +kernel
theorem dX12_takesHouse_68 : decode cX12_takesHouse 68 = .ok (.ireturn, 1) := by decide +kernel
theorem dX12_read_0 : decode cX12_read 0 = .ok (.aload_n 0, 1) := by decide +kernel
theorem dX12_read_1 : decode cX12_read 1 = .ok (.iconst 0, 1) := by decide +kernel
theorem dX12_read_2 : decode cX12_read 2 = .ok (.invokevirtual 261, 3) := by decide +kernel
theorem dX12_read_5 : decode cX12_read 5 = .ok (.aload_n 0, 1) := by decide +kernel
theorem dX12_read_6 : decode cX12_read 6 = .ok (.invokevirtual 276, 3) := by decide +kernel
theorem dX12_read_9 : decode cX12_read 9 = .ok (.ifCond .ne 11, 3) := by decide +kernel
theorem dX12_read_12 : decode cX12_read 12 = .ok (.bipush (-10), 2) := by decide +kernel
theorem dX12_read_14 : decode cX12_read 14 = .ok (.aload_n 0, 1) := by decide +kernel
theorem dX12_read_15 : decode cX12_read 15 = .ok (.getfield 243, 3) := by decide +kernel
theorem dX12_read_18 : decode cX12_read 18 = .ok (.isub, 1) := by decide +kernel
theorem dX12_read_19 : decode cX12_read 19 = .ok (.ireturn, 1) := by decide +kernel
theorem dX12_read_20 : decode cX12_read 20 = .ok (.aload_n 0, 1) := by decide +kernel
theorem dX12_read_21 : decode cX12_read 21 = .ok (.invokevirtual 265, 3) := by decide +kernel
theorem dX12_read_24 : decode cX12_read 24 = .ok (.iconst 1, 1) := by decide +kernel
theorem dX12_read_25 : decode cX12_read 25 = .ok (.istore_n 1, 1) := by decide +kernel
theorem dX12_read_26 : decode cX12_read 26 = .ok (.aload_n 0, 1) := by decide +kernel
theorem dX12_read_27 : decode cX12_read 27 = .ok (.getfield 249, 3) := by decide +kernel
theorem dX12_read_30 : decode cX12_read 30 = .ok (.ifCond .eq 36, 3) := by decide +kernel
theorem dX12_read_33 : decode cX12_read 33 = .ok (.aload_n 0, 1) := by decide +kernel
theorem dX12_read_34 : decode cX12_read 34 = .ok (.invokevirtual 280, 3) := by decide +kernel
theorem dX12_read_37 : decode cX12_read 37 = .ok (.ifCond .eq 11, 3) := by decide +kernel
theorem dX12_read_40 : decode cX12_read 40 = .ok (.aload_n 0, 1) := by decide +kernel
theorem dX12_read_41 : decode cX12_read 41 = .ok (.getfield 249, 3) := by decide +kernel
theorem dX12_read_44 : decode cX12_read 44 = .ok (.iconst 3, 1) := by decide +kernel
theorem dX12_read_45 : decode cX12_read 45 = .ok (.if_icmp .eq 11, 3) := by decide +kernel
theorem dX12_read_48 : decode cX12_read 48 = .ok (.bipush (-10), 2) := by decide +kernel
theorem dX12_read_50 : decode cX12_read 50 = .ok (.aload_n 0, 1) := by decide +kernel
theorem dX12_read_51 : decode cX12_read 51 = .ok (.getfield 243, 3) := by decide +kernel
theorem dX12_read_54 : decode cX12_read 54 = .ok (.isub, 1) := by decide +kernel
theorem dX12_read_55 : decode cX12_read 55 = .ok (.ireturn, 1) := by decide +kernel
theorem dX12_read_56 : decode cX12_read 56 = .ok (.aload_n 0, 1) := by decide +kernel
theorem dX12_read_57 : decode cX12_read 57 = .ok (.invokevirtual 265, 3) := by decide +kernel
theorem dX12_read_60 : decode cX12_read 60 = .ok (.iinc 1 1, 3) := by decide +kernel
theorem dX12_read_63 : decode cX12_read 63 = .ok (.goto (-37), 3) := by decide +kernel
theorem dX12_read_66 : decode cX12_read 66 = .ok (.iconst 0, 1) := by decide +kernel
theorem dX12_read_67 : decode cX12_read 67 = .ok (.istore_n 2, 1) := by decide +kernel
theorem dX12_read_68 : decode cX12_read 68 = .ok (.iload_n 2, 1) := by decide +kernel
theorem dX12_read_69 : decode cX12_read 69 = .ok (.bipush 69, 2) := by decide +kernel
theorem dX12_read_71 : decode cX12_read 71 = .ok (.if_icmp .ge 21, 3) := by decide +kernel
theorem dX12_read_74 : decode cX12_read 74 = .ok (.aload_n 0, 1) := by decide +kernel
theorem dX12_read_75 : decode cX12_read 75 = .ok (.getfield 7, 3) := by decide +kernel
theorem dX12_read_78 : decode cX12_read 78 = .ok (.iload_n 2, 1) := by decide +kernel
theorem dX12_read_79 : decode cX12_read 79 = .ok (.aload_n 0, 1) := by decide +kernel
theorem dX12_read_80 : decode cX12_read 80 = .ok (.getfield 51, 3) := by decide +kernel
theorem dX12_read_83 : decode cX12_read 83 = .ok (.iload_n 2, 1) := by decide +kernel
theorem dX12_read_84 : decode cX12_read 84 = .ok (.iaload, 1) := by decide +kernel
theorem dX12_read_85 : decode cX12_read 85 = .ok (.iastore, 1) := by decide +kernel
theorem dX12_read_86 : decode cX12_read 86 = .ok (.iinc 2 1, 3) := by decide +kernel
theorem dX12_read_89 : decode cX12_read 89 = .ok (.goto (-21), 3) := by decide +kernel
theorem dX12_read_92 : decode cX12_read 92 = .ok (.iload_n 1, 1) := by decide +kernel
theorem dX12_read_93 : decode cX12_read 93 = .ok (.ireturn, 1) := by decide +kernel
theorem dX12_part_0 : decode cX12_part 0 = .ok (.iload_n 1, 1) := by decide +kernel
theorem dX12_part_1 : decode cX12_part 1 = .ok (.ifCond .ne 10, 3) := by decide +kernel
theorem dX12_part_4 : decode cX12_part 4 = .ok (.aload_n 0, 1) := by decide +kernel
theorem dX12_part_5 : decode cX12_part 5 = .ok (.getfield 207, 3) := by decide +kernel
theorem dX12_part_8 : decode cX12_part 8 = .ok (.goto 22, 3) := by decide +kernel
theorem dX12_part_11 : decode cX12_part 11 = .ok (.iload_n 1, 1) := by decide +kernel
theorem dX12_part_12 : decode cX12_part 12 = .ok (.iconst 1, 1) := by decide +kernel
theorem dX12_part_13 : decode cX12_part 13 = .ok (.if_icmp .ne 10, 3) := by decide +kernel
theorem dX12_part_16 : decode cX12_part 16 = .ok (.aload_n 0, 1) := by decide +kernel
theorem dX12_part_17 : decode cX12_part 17 = .ok (.getfield 26, 3) := by decide +kernel
theorem dX12_part_20 : decode cX12_part 20 = .ok (.goto 10, 3) := by decide +kernel
theorem dX12_part_23 : decode cX12_part 23 = .ok (.aload_n 0, 1) := by decide +kernel
theorem dX12_part_24 : decode cX12_part 24 = .ok (.bipush (-2), 2) := by decide +kernel
theorem dX12_part_26 : decode cX12_part 26 = .ok (.invokevirtual 87, 3) := by decide +kernel
theorem dX12_part_29 : decode cX12_part 29 = .ok (.i2l, 1) := by decide +kernel
theorem dX12_part_30 : decode cX12_part 30 = .ok (.lreturn, 1) := by decide +kernel
theorem dX12_image_0 : decode cX12_image 0 = .ok (.iload_n 1, 1) := by decide +kernel
theorem dX12_image_1 : decode cX12_image 1 = .ok (.i2l, 1) := by decide +kernel
theorem dX12_image_2 : decode cX12_image 2 = .ok (.lconst 0, 1) := by decide +kernel
theorem dX12_image_3 : decode cX12_image 3 = .ok (.lconst 1, 1) := by decide +kernel
theorem dX12_image_4 : decode cX12_image 4 = .ok (.invokestatic 59, 3) := by decide +kernel
theorem dX12_image_7 : decode cX12_image 7 = .ok (.ifCond .ne 10, 3) := by decide +kernel
theorem dX12_image_10 : decode cX12_image 10 = .ok (.aload_n 0, 1) := by decide +kernel
theorem dX12_image_11 : decode cX12_image 11 = .ok (.bipush (-2), 2) := by decide +kernel
theorem dX12_image_13 : decode cX12_image 13 = .ok (.invokevirtual 87, 3) := by decide +kernel
theorem dX12_image_16 : decode cX12_image 16 = .ok (.ireturn, 1) := by decide +kernel
theorem dX12_image_17 : decode cX12_image 17 = .ok (.iconst 0, 1) := by decide +kernel
theorem dX12_image_18 : decode cX12_image 18 = .ok (.istore_n 2, 1) := by decide +kernel
theorem dX12_image_19 : decode cX12_image 19 = .ok (.iload_n 2, 1) := by decide +kernel
theorem dX12_image_20 : decode cX12_image 20 = .ok (.sipush 149, 3) := by decide +kernel
theorem dX12_image_23 : decode cX12_image 23 = .ok (.if_icmp .ge 27, 3) := by decide +kernel
theorem dX12_image_26 : decode cX12_image 26 = .ok (.aload_n 0, 1) := by decide +kernel
theorem dX12_image_27 : decode cX12_image 27 = .ok (.getfield 13, 3) := by decide +kernel
theorem dX12_image_30 : decode cX12_image 30 = .ok (.sipush 149, 3) := by decide +kernel
theorem dX12_image_33 : decode cX12_image 33 = .ok (.iload_n 1, 1) := by decide +kernel
theorem dX12_image_34 : decode cX12_image 34 = .ok (.imul, 1) := by decide +kernel
theorem dX12_image_35 : decode cX12_image 35 = .ok (.iload_n 2, 1) := by decide +kernel
theorem dX12_image_36 : decode cX12_image 36 = .ok (.iadd, 1) := by decide +kernel
theorem dX12_image_37 : decode cX12_image 37 = .ok (.aload_n 0, 1) := by decide +kernel
theorem dX12_image_38 : decode cX12_image 38 = .ok (.getfield 7, 3) := by decide +kernel
theorem dX12_image_41 : decode cX12_image 41 = .ok (.iload_n 2, 1) := by decide +kernel
theorem dX12_image_42 : decode cX12_image 42 = .ok (.iaload, 1) := by decide +kernel
theorem dX12_image_43 : decode cX12_image 43 = .ok (.iastore, 1) := by decide +kernel
theorem dX12_image_44 : decode cX12_image 44 = .ok (.iinc 2 1, 3) := by decide +kernel
theorem dX12_image_47 : decode cX12_image 47 = .ok (.goto (-28), 3) := by decide +kernel
theorem dX12_image_50 : decode cX12_image 50 = .ok (.aload_n 0, 1) := by decide +kernel
theorem dX12_image_51 : decode cX12_image 51 = .ok (.getfield 16, 3) := by decide +kernel
theorem dX12_image_54 : decode cX12_image 54 = .ok (.iload_n 1, 1) := by decide +kernel
theorem dX12_image_55 : decode cX12_image 55 = .ok (.iconst 1, 1) := by decide +kernel
theorem dX12_image_56 : decode cX12_image 56 = .ok (.bastore, 1) := by decide +kernel
theorem dX12_image_57 : decode cX12_image 57 = .ok (.iconst 1, 1) := by decide +kernel
theorem dX12_image_58 : decode cX12_image 58 = .ok (.ireturn, 1) := by decide +kernel
theorem dX12_from_0 : decode cX12_from 0 = .ok (.iload_n 1, 1) := by decide +kernel
theorem dX12_from_1 : decode cX12_from 1 = .ok (.i2l, 1) := by decide +kernel
theorem dX12_from_2 : decode cX12_from 2 = .ok (.lconst 0, 1) := by decide +kernel
theorem dX12_from_3 : decode cX12_from 3 = .ok (.lconst 1, 1) := by decide +kernel
theorem dX12_from_4 : decode cX12_from 4 = .ok (.invokestatic 59, 3) := by decide +kernel
theorem dX12_from_7 : decode cX12_from 7 = .ok (.ifCond .ne 10, 3) := by decide +kernel
theorem dX12_from_10 : decode cX12_from 10 = .ok (.aload_n 0, 1) := by decide +kernel
theorem dX12_from_11 : decode cX12_from 11 = .ok (.bipush (-2), 2) := by decide +kernel
theorem dX12_from_13 : decode cX12_from 13 = .ok (.invokevirtual 87, 3) := by decide +kernel
theorem dX12_from_16 : decode cX12_from 16 = .ok (.ireturn, 1) := by decide +kernel
theorem dX12_from_17 : decode cX12_from 17 = .ok (.aload_n 0, 1) := by decide +kernel
theorem dX12_from_18 : decode cX12_from 18 = .ok (.getfield 16, 3) := by decide +kernel
theorem dX12_from_21 : decode cX12_from 21 = .ok (.iload_n 1, 1) := by decide +kernel
theorem dX12_from_22 : decode cX12_from 22 = .ok (.baload, 1) := by decide +kernel
theorem dX12_from_23 : decode cX12_from 23 = .ok (.ifCond .ne 8, 3) := by decide +kernel
theorem dX12_from_26 : decode cX12_from 26 = .ok (.aload_n 0, 1) := by decide +kernel
theorem dX12_from_27 : decode cX12_from 27 = .ok (.invokevirtual 111, 3) := by decide +kernel
theorem dX12_from_30 : decode cX12_from 30 = .ok (.ireturn, 1) := by decide +kernel
theorem dX12_from_31 : decode cX12_from 31 = .ok (.iconst 0, 1) := by decide +kernel
theorem dX12_from_32 : decode cX12_from 32 = .ok (.istore_n 2, 1) := by decide +kernel
theorem dX12_from_33 : decode cX12_from 33 = .ok (.iload_n 2, 1) := by decide +kernel
theorem dX12_from_34 : decode cX12_from 34 = .ok (.sipush 149, 3) := by decide +kernel
theorem dX12_from_37 : decode cX12_from 37 = .ok (.if_icmp .ge 27, 3) := by decide +kernel
theorem dX12_from_40 : decode cX12_from 40 = .ok (.aload_n 0, 1) := by decide +kernel
theorem dX12_from_41 : decode cX12_from 41 = .ok (.getfield 7, 3) := by decide +kernel
theorem dX12_from_44 : decode cX12_from 44 = .ok (.iload_n 2, 1) := by decide +kernel
theorem dX12_from_45 : decode cX12_from 45 = .ok (.aload_n 0, 1) := by decide +kernel
theorem dX12_from_46 : decode cX12_from 46 = .ok (.getfield 13, 3) := by decide +kernel
theorem dX12_from_49 : decode cX12_from 49 = .ok (.sipush 149, 3) := by decide +kernel
theorem dX12_from_52 : decode cX12_from 52 = .ok (.iload_n 1, 1) := by decide +kernel
theorem dX12_from_53 : decode cX12_from 53 = .ok (.imul, 1) := by decide +kernel
theorem dX12_from_54 : decode cX12_from 54 = .ok (.iload_n 2, 1) := by decide +kernel
theorem dX12_from_55 : decode cX12_from 55 = .ok (.iadd, 1) := by decide +kernel
theorem dX12_from_56 : decode cX12_from 56 = .ok (.iaload, 1) := by decide +kernel
theorem dX12_from_57 : decode cX12_from 57 = .ok (.iastore, 1) := by decide +kernel
theorem dX12_from_58 : decode cX12_from 58 = .ok (.iinc 2 1, 3) := by decide +kernel
theorem dX12_from_61 : decode cX12_from 61 = .ok (.goto (-28), 3) := by decide +kernel
theorem dX12_from_64 : decode cX12_from 64 = .ok (.iconst 1, 1) := by decide +kernel
theorem dX12_from_65 : decode cX12_from 65 = .ok (.ireturn, 1) := by decide +kernel
theorem dX12_status_0 : decode cX12_status 0 = .ok (.iload_n 1, 1) := by decide +kernel
theorem dX12_status_1 : decode cX12_status 1 = .ok (.i2l, 1) := by decide +kernel
theorem dX12_status_2 : decode cX12_status 2 = .ok (.lconst 0, 1) := by decide +kernel
theorem dX12_status_3 : decode cX12_status 3 = .ok (.ldc2_w 175, 3) := by decide +kernel
theorem dX12_status_6 : decode cX12_status 6 = .ok (.invokestatic 59, 3) := by decide +kernel
theorem dX12_status_9 : decode cX12_status 9 = .ok (.ifCond .eq 12, 3) := by decide +kernel
theorem dX12_status_12 : decode cX12_status 12 = .ok (.aload_n 0, 1) := by decide +kernel
theorem dX12_status_13 : decode cX12_status 13 = .ok (.getfield 20, 3) := by decide +kernel
theorem dX12_status_16 : decode cX12_status 16 = .ok (.iload_n 1, 1) := by decide +kernel
theorem dX12_status_17 : decode cX12_status 17 = .ok (.iaload, 1) := by decide +kernel
theorem dX12_status_18 : decode cX12_status 18 = .ok (.goto 8, 3) := by decide +kernel
theorem dX12_status_21 : decode cX12_status 21 = .ok (.aload_n 0, 1) := by decide +kernel
theorem dX12_status_22 : decode cX12_status 22 = .ok (.iconst (-1), 1) := by decide +kernel
theorem dX12_status_23 : decode cX12_status 23 = .ok (.invokevirtual 87, 3) := by decide +kernel
theorem dX12_status_26 : decode cX12_status 26 = .ok (.ireturn, 1) := by decide +kernel
theorem dX12_counted_0 : decode cX12_counted 0 = .ok (.iload_n 1, 1) := by decide +kernel
theorem dX12_counted_1 : decode cX12_counted 1 = .ok (.tableswitch 72 0 4 #[35, 43, 48, 56, 64], 35) := by decide +kernel
theorem dX12_counted_36 : decode cX12_counted 36 = .ok (.aload_n 0, 1) := by decide +kernel
theorem dX12_counted_37 : decode cX12_counted 37 = .ok (.invokevirtual 91, 3) := by decide +kernel
theorem dX12_counted_40 : decode cX12_counted 40 = .ok (.invokestatic 95, 3) := by decide +kernel
theorem dX12_counted_43 : decode cX12_counted 43 = .ok (.ireturn, 1) := by decide +kernel
theorem dX12_counted_44 : decode cX12_counted 44 = .ok (.aload_n 0, 1) := by decide +kernel
theorem dX12_counted_45 : decode cX12_counted 45 = .ok (.invokevirtual 102, 3) := by decide +kernel
theorem dX12_counted_48 : decode cX12_counted 48 = .ok (.ireturn, 1) := by decide +kernel
theorem dX12_counted_49 : decode cX12_counted 49 = .ok (.aload_n 0, 1) := by decide +kernel
theorem dX12_counted_50 : decode cX12_counted 50 = .ok (.getfield 7, 3) := by decide +kernel
theorem dX12_counted_53 : decode cX12_counted 53 = .ok (.bipush 10, 2) := by decide +kernel
theorem dX12_counted_55 : decode cX12_counted 55 = .ok (.iaload, 1) := by decide +kernel
theorem dX12_counted_56 : decode cX12_counted 56 = .ok (.ireturn, 1) := by decide +kernel
theorem dX12_counted_57 : decode cX12_counted 57 = .ok (.aload_n 0, 1) := by decide +kernel
theorem dX12_counted_58 : decode cX12_counted 58 = .ok (.getfield 7, 3) := by decide +kernel
theorem dX12_counted_61 : decode cX12_counted 61 = .ok (.bipush 11, 2) := by decide +kernel
theorem dX12_counted_63 : decode cX12_counted 63 = .ok (.iaload, 1) := by decide +kernel
theorem dX12_counted_64 : decode cX12_counted 64 = .ok (.ireturn, 1) := by decide +kernel
theorem dX12_counted_65 : decode cX12_counted 65 = .ok (.aload_n 0, 1) := by decide +kernel
theorem dX12_counted_66 : decode cX12_counted 66 = .ok (.getfield 7, 3) := by decide +kernel
theorem dX12_counted_69 : decode cX12_counted 69 = .ok (.bipush 12, 2) := by decide +kernel
theorem dX12_counted_71 : decode cX12_counted 71 = .ok (.iaload, 1) := by decide +kernel
theorem dX12_counted_72 : decode cX12_counted 72 = .ok (.ireturn, 1) := by decide +kernel
theorem dX12_counted_73 : decode cX12_counted 73 = .ok (.aload_n 0, 1) := by decide +kernel
theorem dX12_counted_74 : decode cX12_counted 74 = .ok (.getfield 232, 3) := by decide +kernel
theorem dX12_counted_77 : decode cX12_counted 77 = .ok (.ireturn, 1) := by decide +kernel
theorem dX12_count_0 : decode cX12_count 0 = .ok (.iload_n 1, 1) := by decide +kernel
theorem dX12_count_1 : decode cX12_count 1 = .ok (.i2l, 1) := by decide +kernel
theorem dX12_count_2 : decode cX12_count 2 = .ok (.lconst 0, 1) := by decide +kernel
theorem dX12_count_3 : decode cX12_count 3 = .ok (.ldc2_w 65, 3) := by decide +kernel
theorem dX12_count_6 : decode cX12_count 6 = .ok (.invokestatic 59, 3) := by decide +kernel
theorem dX12_count_9 : decode cX12_count 9 = .ok (.ifCond .eq 11, 3) := by decide +kernel
theorem dX12_count_12 : decode cX12_count 12 = .ok (.aload_n 0, 1) := by decide +kernel
theorem dX12_count_13 : decode cX12_count 13 = .ok (.iload_n 1, 1) := by decide +kernel
theorem dX12_count_14 : decode cX12_count 14 = .ok (.invokevirtual 283, 3) := by decide +kernel
theorem dX12_count_17 : decode cX12_count 17 = .ok (.goto 9, 3) := by decide +kernel
theorem dX12_count_20 : decode cX12_count 20 = .ok (.aload_n 0, 1) := by decide +kernel
theorem dX12_count_21 : decode cX12_count 21 = .ok (.bipush (-2), 2) := by decide +kernel
theorem dX12_count_23 : decode cX12_count 23 = .ok (.invokevirtual 87, 3) := by decide +kernel
theorem dX12_count_26 : decode cX12_count 26 = .ok (.ireturn, 1) := by decide +kernel
theorem dX12_digest_0 : decode cX12_digest 0 = .ok (.ldc2_w 286, 3) := by decide +kernel
theorem dX12_digest_3 : decode cX12_digest 3 = .ok (.lstore_n 1, 1) := by decide +kernel
theorem dX12_digest_4 : decode cX12_digest 4 = .ok (.iconst 0, 1) := by decide +kernel
theorem dX12_digest_5 : decode cX12_digest 5 = .ok (.istore_n 3, 1) := by decide +kernel
theorem dX12_digest_6 : decode cX12_digest 6 = .ok (.iload_n 3, 1) := by decide +kernel
theorem dX12_digest_7 : decode cX12_digest 7 = .ok (.bipush 6, 2) := by decide +kernel
theorem dX12_digest_9 : decode cX12_digest 9 = .ok (.if_icmp .ge 22, 3) := by decide +kernel
theorem dX12_digest_12 : decode cX12_digest 12 = .ok (.ldc2_w 288, 3) := by decide +kernel
theorem dX12_digest_15 : decode cX12_digest 15 = .ok (.lload_n 1, 1) := by decide +kernel
theorem dX12_digest_16 : decode cX12_digest 16 = .ok (.lmul, 1) := by decide +kernel
theorem dX12_digest_17 : decode cX12_digest 17 = .ok (.aload_n 0, 1) := by decide +kernel
theorem dX12_digest_18 : decode cX12_digest 18 = .ok (.iload_n 3, 1) := by decide +kernel
theorem dX12_digest_19 : decode cX12_digest 19 = .ok (.invokevirtual 283, 3) := by decide +kernel
theorem dX12_digest_22 : decode cX12_digest 22 = .ok (.i2l, 1) := by decide +kernel
theorem dX12_digest_23 : decode cX12_digest 23 = .ok (.ladd, 1) := by decide +kernel
theorem dX12_digest_24 : decode cX12_digest 24 = .ok (.lstore_n 1, 1) := by decide +kernel
theorem dX12_digest_25 : decode cX12_digest 25 = .ok (.iinc 3 1, 3) := by decide +kernel
theorem dX12_digest_28 : decode cX12_digest 28 = .ok (.goto (-22), 3) := by decide +kernel
theorem dX12_digest_31 : decode cX12_digest 31 = .ok (.iconst 0, 1) := by decide +kernel
theorem dX12_digest_32 : decode cX12_digest 32 = .ok (.istore_n 3, 1) := by decide +kernel
theorem dX12_digest_33 : decode cX12_digest 33 = .ok (.iload_n 3, 1) := by decide +kernel
theorem dX12_digest_34 : decode cX12_digest 34 = .ok (.bipush 8, 2) := by decide +kernel
theorem dX12_digest_36 : decode cX12_digest 36 = .ok (.if_icmp .ge 23, 3) := by decide +kernel
theorem dX12_digest_39 : decode cX12_digest 39 = .ok (.ldc2_w 288, 3) := by decide +kernel
theorem dX12_digest_42 : decode cX12_digest 42 = .ok (.lload_n 1, 1) := by decide +kernel
theorem dX12_digest_43 : decode cX12_digest 43 = .ok (.lmul, 1) := by decide +kernel
theorem dX12_digest_44 : decode cX12_digest 44 = .ok (.aload_n 0, 1) := by decide +kernel
theorem dX12_digest_45 : decode cX12_digest 45 = .ok (.getfield 7, 3) := by decide +kernel
theorem dX12_digest_48 : decode cX12_digest 48 = .ok (.iload_n 3, 1) := by decide +kernel
theorem dX12_digest_49 : decode cX12_digest 49 = .ok (.iaload, 1) := by decide +kernel
theorem dX12_digest_50 : decode cX12_digest 50 = .ok (.i2l, 1) := by decide +kernel
theorem dX12_digest_51 : decode cX12_digest 51 = .ok (.ladd, 1) := by decide +kernel
theorem dX12_digest_52 : decode cX12_digest 52 = .ok (.lstore_n 1, 1) := by decide +kernel
theorem dX12_digest_53 : decode cX12_digest 53 = .ok (.iinc 3 1, 3) := by decide +kernel
theorem dX12_digest_56 : decode cX12_digest 56 = .ok (.goto (-23), 3) := by decide +kernel
theorem dX12_digest_59 : decode cX12_digest 59 = .ok (.iconst 0, 1) := by decide +kernel
theorem dX12_digest_60 : decode cX12_digest 60 = .ok (.istore_n 3, 1) := by decide +kernel
theorem dX12_digest_61 : decode cX12_digest 61 = .ok (.iload_n 3, 1) := by decide +kernel
theorem dX12_digest_62 : decode cX12_digest 62 = .ok (.aload_n 0, 1) := by decide +kernel
theorem dX12_digest_63 : decode cX12_digest 63 = .ok (.getfield 7, 3) := by decide +kernel
theorem dX12_digest_66 : decode cX12_digest 66 = .ok (.bipush 10, 2) := by decide +kernel
theorem dX12_digest_68 : decode cX12_digest 68 = .ok (.iaload, 1) := by decide +kernel
theorem dX12_digest_69 : decode cX12_digest 69 = .ok (.if_icmp .ge 76, 3) := by decide +kernel
theorem dX12_digest_72 : decode cX12_digest 72 = .ok (.bipush 13, 2) := by decide +kernel
theorem dX12_digest_74 : decode cX12_digest 74 = .ok (.iconst 4, 1) := by decide +kernel
theorem dX12_digest_75 : decode cX12_digest 75 = .ok (.iload_n 3, 1) := by decide +kernel
theorem dX12_digest_76 : decode cX12_digest 76 = .ok (.imul, 1) := by decide +kernel
theorem dX12_digest_77 : decode cX12_digest 77 = .ok (.iadd, 1) := by decide +kernel
theorem dX12_digest_78 : decode cX12_digest 78 = .ok (.istore 4, 2) := by decide +kernel
theorem dX12_digest_80 : decode cX12_digest 80 = .ok (.ldc2_w 288, 3) := by decide +kernel
theorem dX12_digest_83 : decode cX12_digest 83 = .ok (.ldc2_w 288, 3) := by decide +kernel
theorem dX12_digest_86 : decode cX12_digest 86 = .ok (.ldc2_w 288, 3) := by decide +kernel
theorem dX12_digest_89 : decode cX12_digest 89 = .ok (.lload_n 1, 1) := by decide +kernel
theorem dX12_digest_90 : decode cX12_digest 90 = .ok (.lmul, 1) := by decide +kernel
theorem dX12_digest_91 : decode cX12_digest 91 = .ok (.aload_n 0, 1) := by decide +kernel
theorem dX12_digest_92 : decode cX12_digest 92 = .ok (.getfield 7, 3) := by decide +kernel
theorem dX12_digest_95 : decode cX12_digest 95 = .ok (.iload 4, 2) := by decide +kernel
theorem dX12_digest_97 : decode cX12_digest 97 = .ok (.iaload, 1) := by decide +kernel
theorem dX12_digest_98 : decode cX12_digest 98 = .ok (.i2l, 1) := by decide +kernel
theorem dX12_digest_99 : decode cX12_digest 99 = .ok (.ladd, 1) := by decide +kernel
theorem dX12_digest_100 : decode cX12_digest 100 = .ok (.lmul, 1) := by decide +kernel
theorem dX12_digest_101 : decode cX12_digest 101 = .ok (.aload_n 0, 1) := by decide +kernel
theorem dX12_digest_102 : decode cX12_digest 102 = .ok (.getfield 7, 3) := by decide +kernel
theorem dX12_digest_105 : decode cX12_digest 105 = .ok (.iload 4, 2) := by decide +kernel
theorem dX12_digest_107 : decode cX12_digest 107 = .ok (.iconst 1, 1) := by decide +kernel
theorem dX12_digest_108 : decode cX12_digest 108 = .ok (.iadd, 1) := by decide +kernel
theorem dX12_digest_109 : decode cX12_digest 109 = .ok (.iaload, 1) := by decide +kernel
theorem dX12_digest_110 : decode cX12_digest 110 = .ok (.i2l, 1) := by decide +kernel
theorem dX12_digest_111 : decode cX12_digest 111 = .ok (.ladd, 1) := by decide +kernel
theorem dX12_digest_112 : decode cX12_digest 112 = .ok (.lmul, 1) := by decide +kernel
theorem dX12_digest_113 : decode cX12_digest 113 = .ok (.bipush 10, 2) := by decide +kernel
theorem dX12_digest_115 : decode cX12_digest 115 = .ok (.aload_n 0, 1) := by decide +kernel
theorem dX12_digest_116 : decode cX12_digest 116 = .ok (.getfield 7, 3) := by decide +kernel
theorem dX12_digest_119 : decode cX12_digest 119 = .ok (.iload 4, 2) := by decide +kernel
theorem dX12_digest_121 : decode cX12_digest 121 = .ok (.iconst 2, 1) := by decide +kernel
theorem dX12_digest_122 : decode cX12_digest 122 = .ok (.iadd, 1) := by decide +kernel
theorem dX12_digest_123 : decode cX12_digest 123 = .ok (.iaload, 1) := by decide +kernel
theorem dX12_digest_124 : decode cX12_digest 124 = .ok (.imul, 1) := by decide +kernel
theorem dX12_digest_125 : decode cX12_digest 125 = .ok (.i2l, 1) := by decide +kernel
theorem dX12_digest_126 : decode cX12_digest 126 = .ok (.ladd, 1) := by decide +kernel
theorem dX12_digest_127 : decode cX12_digest 127 = .ok (.aload_n 0, 1) := by decide +kernel
theorem dX12_digest_128 : decode cX12_digest 128 = .ok (.getfield 7, 3) := by decide +kernel
theorem dX12_digest_131 : decode cX12_digest 131 = .ok (.iload 4, 2) := by decide +kernel
theorem dX12_digest_133 : decode cX12_digest 133 = .ok (.iconst 3, 1) := by decide +kernel
theorem dX12_digest_134 : decode cX12_digest 134 = .ok (.iadd, 1) := by decide +kernel
theorem dX12_digest_135 : decode cX12_digest 135 = .ok (.iaload, 1) := by decide +kernel
theorem dX12_digest_136 : decode cX12_digest 136 = .ok (.i2l, 1) := by decide +kernel
theorem dX12_digest_137 : decode cX12_digest 137 = .ok (.ladd, 1) := by decide +kernel
theorem dX12_digest_138 : decode cX12_digest 138 = .ok (.lstore_n 1, 1) := by decide +kernel
theorem dX12_digest_139 : decode cX12_digest 139 = .ok (.iinc 3 1, 3) := by decide +kernel
theorem dX12_digest_142 : decode cX12_digest 142 = .ok (.goto (-81), 3) := by decide +kernel
theorem dX12_digest_145 : decode cX12_digest 145 = .ok (.iconst 0, 1) := by decide +kernel
theorem dX12_digest_146 : decode cX12_digest 146 = .ok (.istore_n 3, 1) := by decide +kernel
theorem dX12_digest_147 : decode cX12_digest 147 = .ok (.iload_n 3, 1) := by decide +kernel
theorem dX12_digest_148 : decode cX12_digest 148 = .ok (.iconst 3, 1) := by decide +kernel
theorem dX12_digest_149 : decode cX12_digest 149 = .ok (.aload_n 0, 1) := by decide +kernel
theorem dX12_digest_150 : decode cX12_digest 150 = .ok (.getfield 7, 3) := by decide +kernel
theorem dX12_digest_153 : decode cX12_digest 153 = .ok (.bipush 11, 2) := by decide +kernel
theorem dX12_digest_155 : decode cX12_digest 155 = .ok (.iaload, 1) := by decide +kernel
theorem dX12_digest_156 : decode cX12_digest 156 = .ok (.imul, 1) := by decide +kernel
theorem dX12_digest_157 : decode cX12_digest 157 = .ok (.if_icmp .ge 26, 3) := by decide +kernel
theorem dX12_digest_160 : decode cX12_digest 160 = .ok (.ldc2_w 288, 3) := by decide +kernel
theorem dX12_digest_163 : decode cX12_digest 163 = .ok (.lload_n 1, 1) := by decide +kernel
theorem dX12_digest_164 : decode cX12_digest 164 = .ok (.lmul, 1) := by decide +kernel
theorem dX12_digest_165 : decode cX12_digest 165 = .ok (.aload_n 0, 1) := by decide +kernel
theorem dX12_digest_166 : decode cX12_digest 166 = .ok (.getfield 7, 3) := by decide +kernel
theorem dX12_digest_169 : decode cX12_digest 169 = .ok (.bipush 45, 2) := by decide +kernel
theorem dX12_digest_171 : decode cX12_digest 171 = .ok (.iload_n 3, 1) := by decide +kernel
theorem dX12_digest_172 : decode cX12_digest 172 = .ok (.iadd, 1) := by decide +kernel
theorem dX12_digest_173 : decode cX12_digest 173 = .ok (.iaload, 1) := by decide +kernel
theorem dX12_digest_174 : decode cX12_digest 174 = .ok (.i2l, 1) := by decide +kernel
theorem dX12_digest_175 : decode cX12_digest 175 = .ok (.ladd, 1) := by decide +kernel
theorem dX12_digest_176 : decode cX12_digest 176 = .ok (.lstore_n 1, 1) := by decide +kernel
theorem dX12_digest_177 : decode cX12_digest 177 = .ok (.iinc 3 1, 3) := by decide +kernel
theorem dX12_digest_180 : decode cX12_digest 180 = .ok (.goto (-33), 3) := by decide +kernel
theorem dX12_digest_183 : decode cX12_digest 183 = .ok (.ldc2_w 288, 3) := by decide +kernel
theorem dX12_digest_186 : decode cX12_digest 186 = .ok (.ldc2_w 288, 3) := by decide +kernel
theorem dX12_digest_189 : decode cX12_digest 189 = .ok (.lload_n 1, 1) := by decide +kernel
theorem dX12_digest_190 : decode cX12_digest 190 = .ok (.lmul, 1) := by decide +kernel
theorem dX12_digest_191 : decode cX12_digest 191 = .ok (.aload_n 0, 1) := by decide +kernel
theorem dX12_digest_192 : decode cX12_digest 192 = .ok (.getfield 207, 3) := by decide +kernel
theorem dX12_digest_195 : decode cX12_digest 195 = .ok (.ladd, 1) := by decide +kernel
theorem dX12_digest_196 : decode cX12_digest 196 = .ok (.lmul, 1) := by decide +kernel
theorem dX12_digest_197 : decode cX12_digest 197 = .ok (.aload_n 0, 1) := by decide +kernel
theorem dX12_digest_198 : decode cX12_digest 198 = .ok (.getfield 26, 3) := by decide +kernel
theorem dX12_digest_201 : decode cX12_digest 201 = .ok (.ladd, 1) := by decide +kernel
theorem dX12_digest_202 : decode cX12_digest 202 = .ok (.lreturn, 1) := by decide +kernel

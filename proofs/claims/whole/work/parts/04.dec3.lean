theorem dX11_init_0 : decode cX11_init 0 = .ok (.aload_n 0, 1) := by decide +kernel
theorem dX11_init_1 : decode cX11_init 1 = .ok (.invokespecial 1, 3) := by decide +kernel
theorem dX11_init_4 : decode cX11_init 4 = .ok (.aload_n 0, 1) := by decide +kernel
theorem dX11_init_5 : decode cX11_init 5 = .ok (.sipush 305, 3) := by decide +kernel
theorem dX11_init_8 : decode cX11_init 8 = .ok (.newarray .int, 2) := by decide +kernel
theorem dX11_init_10 : decode cX11_init 10 = .ok (.putfield 7, 3) := by decide +kernel
theorem dX11_init_13 : decode cX11_init 13 = .ok (.aload_n 0, 1) := by decide +kernel
theorem dX11_init_14 : decode cX11_init 14 = .ok (.sipush 305, 3) := by decide +kernel
theorem dX11_init_17 : decode cX11_init 17 = .ok (.newarray .int, 2) := by decide +kernel
theorem dX11_init_19 : decode cX11_init 19 = .ok (.putfield 13, 3) := by decide +kernel
theorem dX11_init_22 : decode cX11_init 22 = .ok (.aload_n 0, 1) := by decide +kernel
theorem dX11_init_23 : decode cX11_init 23 = .ok (.sipush 305, 3) := by decide +kernel
theorem dX11_init_26 : decode cX11_init 26 = .ok (.newarray .int, 2) := by decide +kernel
theorem dX11_init_28 : decode cX11_init 28 = .ok (.putfield 16, 3) := by decide +kernel
theorem dX11_init_31 : decode cX11_init 31 = .ok (.aload_n 0, 1) := by decide +kernel
theorem dX11_init_32 : decode cX11_init 32 = .ok (.sipush 305, 3) := by decide +kernel
theorem dX11_init_35 : decode cX11_init 35 = .ok (.newarray .int, 2) := by decide +kernel
theorem dX11_init_37 : decode cX11_init 37 = .ok (.putfield 19, 3) := by decide +kernel
theorem dX11_init_40 : decode cX11_init 40 = .ok (.aload_n 0, 1) := by decide +kernel
theorem dX11_init_41 : decode cX11_init 41 = .ok (.bipush 6, 2) := by decide +kernel
theorem dX11_init_43 : decode cX11_init 43 = .ok (.newarray .int, 2) := by decide +kernel
theorem dX11_init_45 : decode cX11_init 45 = .ok (.putfield 22, 3) := by decide +kernel
theorem dX11_init_48 : decode cX11_init 48 = .ok (.aload_n 0, 1) := by decide +kernel
theorem dX11_init_49 : decode cX11_init 49 = .ok (.iconst (-1), 1) := by decide +kernel
theorem dX11_init_50 : decode cX11_init 50 = .ok (.putfield 25, 3) := by decide +kernel
theorem dX11_init_53 : decode cX11_init 53 = .ok (.aload_n 0, 1) := by decide +kernel
theorem dX11_init_54 : decode cX11_init 54 = .ok (.iconst (-1), 1) := by decide +kernel
theorem dX11_init_55 : decode cX11_init 55 = .ok (.putfield 29, 3) := by decide +kernel
theorem dX11_init_58 : decode cX11_init 58 = .ok (.aload_n 0, 1) := by decide +kernel
theorem dX11_init_59 : decode cX11_init 59 = .ok (.iconst 3, 1) := by decide +kernel
theorem dX11_init_60 : decode cX11_init 60 = .ok (.newarray .int, 2) := by decide +kernel
theorem dX11_init_62 : decode cX11_init 62 = .ok (.putfield 32, 3) := by decide +kernel
theorem dX11_init_65 : decode cX11_init 65 = .ok (.aload_n 0, 1) := by decide +kernel
theorem dX11_init_66 : decode cX11_init 66 = .ok (.sipush 1220, 3) := by decide +kernel
theorem dX11_init_69 : decode cX11_init 69 = .ok (.newarray .int, 2) := by decide +kernel
theorem dX11_init_71 : decode cX11_init 71 = .ok (.putfield 35, 3) := by decide +kernel
theorem dX11_init_74 : decode cX11_init 74 = .ok (.aload_n 0, 1) := by decide +kernel
theorem dX11_init_75 : decode cX11_init 75 = .ok (.sipush 201, 3) := by decide +kernel
theorem dX11_init_78 : decode cX11_init 78 = .ok (.newarray .int, 2) := by decide +kernel
theorem dX11_init_80 : decode cX11_init 80 = .ok (.putfield 38, 3) := by decide +kernel
theorem dX11_init_83 : decode cX11_init 83 = .ok (.aload_n 0, 1) := by decide +kernel
theorem dX11_init_84 : decode cX11_init 84 = .ok (.sipush 201, 3) := by decide +kernel
theorem dX11_init_87 : decode cX11_init 87 = .ok (.newarray .long, 2) := by decide +kernel
theorem dX11_init_89 : decode cX11_init 89 = .ok (.putfield 41, 3) := by decide +kernel
theorem dX11_init_92 : decode cX11_init 92 = .ok (.aload_n 0, 1) := by decide +kernel
theorem dX11_init_93 : decode cX11_init 93 = .ok (.iconst 5, 1) := by decide +kernel
theorem dX11_init_94 : decode cX11_init 94 = .ok (.newarray .int, 2) := by decide +kernel
theorem dX11_init_96 : decode cX11_init 96 = .ok (.putfield 45, 3) := by decide +kernel
theorem dX11_init_99 : decode cX11_init 99 = .ok (.aload_n 0, 1) := by decide +kernel
theorem dX11_init_100 : decode cX11_init 100 = .ok (.iconst 4, 1) := by decide +kernel
theorem dX11_init_101 : decode cX11_init 101 = .ok (.newarray .int, 2) := by decide +kernel
theorem dX11_init_103 : decode cX11_init 103 = .ok (.putfield 48, 3) := by decide +kernel
theorem dX11_init_106 : decode cX11_init 106 = .ok (.aload_n 0, 1) := by decide +kernel
theorem dX11_init_107 : decode cX11_init 107 = .ok (.iconst 4, 1) := by decide +kernel
theorem dX11_init_108 : decode cX11_init 108 = .ok (.newarray .int, 2) := by decide +kernel
theorem dX11_init_110 : decode cX11_init 110 = .ok (.putfield 51, 3) := by decide +kernel
theorem dX11_init_113 : decode cX11_init 113 = .ok (.aload_n 0, 1) := by decide +kernel
theorem dX11_init_114 : decode cX11_init 114 = .ok (.sipush 160, 3) := by decide +kernel
theorem dX11_init_117 : decode cX11_init 117 = .ok (.newarray .int, 2) := by decide +kernel
theorem dX11_init_119 : decode cX11_init 119 = .ok (.putfield 54, 3) := by decide +kernel
theorem dX11_init_122 : decode cX11_init 122 = .ok (.aload_n 0, 1) := by decide +kernel
theorem dX11_init_123 : decode cX11_init 123 = .ok (.bipush 40, 2) := by decide +kernel
theorem dX11_init_125 : decode cX11_init 125 = .ok (.newarray .int, 2) := by decide +kernel
theorem dX11_init_127 : decode cX11_init 127 = .ok (.putfield 57, 3) := by decide +kernel
theorem dX11_init_130 : decode cX11_init 130 = .ok (.aload_n 0, 1) := by decide +kernel
theorem dX11_init_131 : decode cX11_init 131 = .ok (.bipush 20, 2) := by decide +kernel
theorem dX11_init_133 : decode cX11_init 133 = .ok (.newarray .int, 2) := by decide +kernel
theorem dX11_init_135 : decode cX11_init 135 = .ok (.putfield 60, 3) := by decide +kernel
theorem dX11_init_138 : decode cX11_init 138 = .ok (.aload_n 0, 1) := by decide +kernel
theorem dX11_init_139 : decode cX11_init 139 = .ok (.bipush 40, 2) := by decide +kernel
theorem dX11_init_141 : decode cX11_init 141 = .ok (.newarray .int, 2) := by decide +kernel
theorem dX11_init_143 : decode cX11_init 143 = .ok (.putfield 63, 3) := by decide +kernel
theorem dX11_init_146 : decode cX11_init 146 = .ok (.aload_n 0, 1) := by decide +kernel
theorem dX11_init_147 : decode cX11_init 147 = .ok (.getfield 7, 3) := by decide +kernel
theorem dX11_init_150 : decode cX11_init 150 = .ok (.iconst 0, 1) := by decide +kernel
theorem dX11_init_151 : decode cX11_init 151 = .ok (.iconst 1, 1) := by decide +kernel
theorem dX11_init_152 : decode cX11_init 152 = .ok (.iastore, 1) := by decide +kernel
theorem dX11_init_153 : decode cX11_init 153 = .ok (.aload_n 0, 1) := by decide +kernel
theorem dX11_init_154 : decode cX11_init 154 = .ok (.getfield 7, 3) := by decide +kernel
theorem dX11_init_157 : decode cX11_init 157 = .ok (.iconst 1, 1) := by decide +kernel
theorem dX11_init_158 : decode cX11_init 158 = .ok (.iconst 1, 1) := by decide +kernel
theorem dX11_init_159 : decode cX11_init 159 = .ok (.iastore, 1) := by decide +kernel
theorem dX11_init_160 : decode cX11_init 160 = .ok (.aload_n 0, 1) := by decide +kernel
theorem dX11_init_161 : decode cX11_init 161 = .ok (.getfield 7, 3) := by decide +kernel
theorem dX11_init_164 : decode cX11_init 164 = .ok (.iconst 4, 1) := by decide +kernel
theorem dX11_init_165 : decode cX11_init 165 = .ok (.iconst 1, 1) := by decide +kernel
theorem dX11_init_166 : decode cX11_init 166 = .ok (.iastore, 1) := by decide +kernel
theorem dX11_init_167 : decode cX11_init 167 = .ok (.aload_n 0, 1) := by decide +kernel
theorem dX11_init_168 : decode cX11_init 168 = .ok (.getfield 7, 3) := by decide +kernel
theorem dX11_init_171 : decode cX11_init 171 = .ok (.bipush 7, 2) := by decide +kernel
theorem dX11_init_173 : decode cX11_init 173 = .ok (.iconst (-1), 1) := by decide +kernel
theorem dX11_init_174 : decode cX11_init 174 = .ok (.iastore, 1) := by decide +kernel
theorem dX11_init_175 : decode cX11_init 175 = .ok (.aload_n 0, 1) := by decide +kernel
theorem dX11_init_176 : decode cX11_init 176 = .ok (.getfield 7, 3) := by decide +kernel
theorem dX11_init_179 : decode cX11_init 179 = .ok (.bipush 8, 2) := by decide +kernel
theorem dX11_init_181 : decode cX11_init 181 = .ok (.iconst (-1), 1) := by decide +kernel
theorem dX11_init_182 : decode cX11_init 182 = .ok (.iastore, 1) := by decide +kernel
theorem dX11_init_183 : decode cX11_init 183 = .ok (.return_, 1) := by decide +kernel
theorem dX11_in_0 : decode cX11_in 0 = .ok (.iload_n 0, 1) := by decide +kernel
theorem dX11_in_1 : decode cX11_in 1 = .ok (.iload_n 1, 1) := by decide +kernel
theorem dX11_in_2 : decode cX11_in 2 = .ok (.if_icmp .lt 12, 3) := by decide +kernel
theorem dX11_in_5 : decode cX11_in 5 = .ok (.iload_n 0, 1) := by decide +kernel
theorem dX11_in_6 : decode cX11_in 6 = .ok (.iload_n 2, 1) := by decide +kernel
theorem dX11_in_7 : decode cX11_in 7 = .ok (.if_icmp .gt 7, 3) := by decide +kernel
theorem dX11_in_10 : decode cX11_in 10 = .ok (.iconst 1, 1) := by decide +kernel
theorem dX11_in_11 : decode cX11_in 11 = .ok (.goto 4, 3) := by decide +kernel
theorem dX11_in_14 : decode cX11_in 14 = .ok (.iconst 0, 1) := by decide +kernel
theorem dX11_in_15 : decode cX11_in 15 = .ok (.ireturn, 1) := by decide +kernel
theorem dX11_errs_0 : decode cX11_errs 0 = .ok (.aload_n 0, 1) := by decide +kernel
theorem dX11_errs_1 : decode cX11_errs 1 = .ok (.getfield 22, 3) := by decide +kernel
theorem dX11_errs_4 : decode cX11_errs 4 = .ok (.ldc 66, 2) := by decide +kernel
theorem dX11_errs_6 : decode cX11_errs 6 = .ok (.iload_n 1, 1) := by decide +kernel
theorem dX11_errs_7 : decode cX11_errs 7 = .ok (.isub, 1) := by decide +kernel
theorem dX11_errs_8 : decode cX11_errs 8 = .ok (.dup2, 1) := by decide +kernel
theorem dX11_errs_9 : decode cX11_errs 9 = .ok (.iaload, 1) := by decide +kernel
theorem dX11_errs_10 : decode cX11_errs 10 = .ok (.iconst 1, 1) := by decide +kernel
theorem dX11_errs_11 : decode cX11_errs 11 = .ok (.iadd, 1) := by decide +kernel
theorem dX11_errs_12 : decode cX11_errs 12 = .ok (.iastore, 1) := by decide +kernel
theorem dX11_errs_13 : decode cX11_errs 13 = .ok (.iload_n 1, 1) := by decide +kernel
theorem dX11_errs_14 : decode cX11_errs 14 = .ok (.ireturn, 1) := by decide +kernel
theorem dX11_held_0 : decode cX11_held 0 = .ok (.iload_n 0, 1) := by decide +kernel
theorem dX11_held_1 : decode cX11_held 1 = .ok (.iload_n 1, 1) := by decide +kernel
theorem dX11_held_2 : decode cX11_held 2 = .ok (.if_icmp .ge 7, 3) := by decide +kernel
theorem dX11_held_5 : decode cX11_held 5 = .ok (.iload_n 1, 1) := by decide +kernel
theorem dX11_held_6 : decode cX11_held 6 = .ok (.goto 13, 3) := by decide +kernel
theorem dX11_held_9 : decode cX11_held 9 = .ok (.iload_n 0, 1) := by decide +kernel
theorem dX11_held_10 : decode cX11_held 10 = .ok (.iload_n 2, 1) := by decide +kernel
theorem dX11_held_11 : decode cX11_held 11 = .ok (.if_icmp .le 7, 3) := by decide +kernel
theorem dX11_held_14 : decode cX11_held 14 = .ok (.iload_n 2, 1) := by decide +kernel
theorem dX11_held_15 : decode cX11_held 15 = .ok (.goto 4, 3) := by decide +kernel
theorem dX11_held_18 : decode cX11_held 18 = .ok (.iload_n 0, 1) := by decide +kernel
theorem dX11_held_19 : decode cX11_held 19 = .ok (.ireturn, 1) := by decide +kernel
theorem dX11_moveAll_0 : decode cX11_moveAll 0 = .ok (.iconst 0, 1) := by decide +kernel
theorem dX11_moveAll_1 : decode cX11_moveAll 1 = .ok (.istore_n 3, 1) := by decide +kernel
theorem dX11_moveAll_2 : decode cX11_moveAll 2 = .ok (.iload_n 3, 1) := by decide +kernel
theorem dX11_moveAll_3 : decode cX11_moveAll 3 = .ok (.sipush 305, 3) := by decide +kernel
theorem dX11_moveAll_6 : decode cX11_moveAll 6 = .ok (.if_icmp .ge 15, 3) := by decide +kernel
theorem dX11_moveAll_9 : decode cX11_moveAll 9 = .ok (.aload_n 2, 1) := by decide +kernel
theorem dX11_moveAll_10 : decode cX11_moveAll 10 = .ok (.iload_n 3, 1) := by decide +kernel
theorem dX11_moveAll_11 : decode cX11_moveAll 11 = .ok (.aload_n 1, 1) := by decide +kernel
theorem dX11_moveAll_12 : decode cX11_moveAll 12 = .ok (.iload_n 3, 1) := by decide +kernel
theorem dX11_moveAll_13 : decode cX11_moveAll 13 = .ok (.iaload, 1) := by decide +kernel
theorem dX11_moveAll_14 : decode cX11_moveAll 14 = .ok (.iastore, 1) := by decide +kernel
theorem dX11_moveAll_15 : decode cX11_moveAll 15 = .ok (.iinc 3 1, 3) := by decide +kernel
theorem dX11_moveAll_18 : decode cX11_moveAll 18 = .ok (.goto (-16), 3) := by decide +kernel
theorem dX11_moveAll_21 : decode cX11_moveAll 21 = .ok (.return_, 1) := by decide +kernel
theorem dX11_many_0 : decode cX11_many 0 = .ok (.aload_n 0, 1) := by decide +kernel
theorem dX11_many_1 : decode cX11_many 1 = .ok (.getfield 7, 3) := by decide +kernel
theorem dX11_many_4 : decode cX11_many 4 = .ok (.iconst 0, 1) := by decide +kernel
theorem dX11_many_5 : decode cX11_many 5 = .ok (.iaload, 1) := by decide +kernel
theorem dX11_many_6 : decode cX11_many 6 = .ok (.aload_n 0, 1) := by decide +kernel
theorem dX11_many_7 : decode cX11_many 7 = .ok (.getfield 7, 3) := by decide +kernel
theorem dX11_many_10 : decode cX11_many 10 = .ok (.iconst 1, 1) := by decide +kernel
theorem dX11_many_11 : decode cX11_many 11 = .ok (.iaload, 1) := by decide +kernel
theorem dX11_many_12 : decode cX11_many 12 = .ok (.imul, 1) := by decide +kernel
theorem dX11_many_13 : decode cX11_many 13 = .ok (.ireturn, 1) := by decide +kernel
theorem dX11_windows_0 : decode cX11_windows 0 = .ok (.iconst 2, 1) := by decide +kernel
theorem dX11_windows_1 : decode cX11_windows 1 = .ok (.aload_n 0, 1) := by decide +kernel
theorem dX11_windows_2 : decode cX11_windows 2 = .ok (.getfield 7, 3) := by decide +kernel
theorem dX11_windows_5 : decode cX11_windows 5 = .ok (.iconst 0, 1) := by decide +kernel
theorem dX11_windows_6 : decode cX11_windows 6 = .ok (.iaload, 1) := by decide +kernel
theorem dX11_windows_7 : decode cX11_windows 7 = .ok (.aload_n 0, 1) := by decide +kernel
theorem dX11_windows_8 : decode cX11_windows 8 = .ok (.getfield 7, 3) := by decide +kernel
theorem dX11_windows_11 : decode cX11_windows 11 = .ok (.iconst 1, 1) := by decide +kernel
theorem dX11_windows_12 : decode cX11_windows 12 = .ok (.iaload, 1) := by decide +kernel
theorem dX11_windows_13 : decode cX11_windows 13 = .ok (.iadd, 1) := by decide +kernel
theorem dX11_windows_14 : decode cX11_windows 14 = .ok (.imul, 1) := by decide +kernel
theorem dX11_windows_15 : decode cX11_windows 15 = .ok (.ireturn, 1) := by decide +kernel
theorem dX11_isSquare_0 : decode cX11_isSquare 0 = .ok (.iload_n 1, 1) := by decide +kernel
theorem dX11_isSquare_1 : decode cX11_isSquare 1 = .ok (.iconst 0, 1) := by decide +kernel
theorem dX11_isSquare_2 : decode cX11_isSquare 2 = .ok (.aload_n 0, 1) := by decide +kernel
theorem dX11_isSquare_3 : decode cX11_isSquare 3 = .ok (.invokevirtual 67, 3) := by decide +kernel
theorem dX11_isSquare_6 : decode cX11_isSquare 6 = .ok (.iconst 1, 1) := by decide +kernel
theorem dX11_isSquare_7 : decode cX11_isSquare 7 = .ok (.isub, 1) := by decide +kernel
theorem dX11_isSquare_8 : decode cX11_isSquare 8 = .ok (.invokestatic 71, 3) := by decide +kernel
theorem dX11_isSquare_11 : decode cX11_isSquare 11 = .ok (.ireturn, 1) := by decide +kernel
theorem dX11_isWindow_0 : decode cX11_isWindow 0 = .ok (.iload_n 1, 1) := by decide +kernel
theorem dX11_isWindow_1 : decode cX11_isWindow 1 = .ok (.iconst 0, 1) := by decide +kernel
theorem dX11_isWindow_2 : decode cX11_isWindow 2 = .ok (.aload_n 0, 1) := by decide +kernel
theorem dX11_isWindow_3 : decode cX11_isWindow 3 = .ok (.invokevirtual 75, 3) := by decide +kernel
theorem dX11_isWindow_6 : decode cX11_isWindow 6 = .ok (.iconst 1, 1) := by decide +kernel
theorem dX11_isWindow_7 : decode cX11_isWindow 7 = .ok (.isub, 1) := by decide +kernel
theorem dX11_isWindow_8 : decode cX11_isWindow 8 = .ok (.invokestatic 71, 3) := by decide +kernel
theorem dX11_isWindow_11 : decode cX11_isWindow 11 = .ok (.ireturn, 1) := by decide +kernel
theorem dX11_its_0 : decode cX11_its 0 = .ok (.aload_n 0, 1) := by decide +kernel
theorem dX11_its_1 : decode cX11_its 1 = .ok (.getfield 7, 3) := by decide +kernel
theorem dX11_its_4 : decode cX11_its 4 = .ok (.bipush 10, 2) := by decide +kernel
theorem dX11_its_6 : decode cX11_its 6 = .ok (.iconst 5, 1) := by decide +kernel
theorem dX11_its_7 : decode cX11_its 7 = .ok (.iload_n 1, 1) := by decide +kernel
theorem dX11_its_8 : decode cX11_its 8 = .ok (.imul, 1) := by decide +kernel
theorem dX11_its_9 : decode cX11_its 9 = .ok (.iadd, 1) := by decide +kernel
theorem dX11_its_10 : decode cX11_its 10 = .ok (.iload_n 2, 1) := by decide +kernel
theorem dX11_its_11 : decode cX11_its 11 = .ok (.iadd, 1) := by decide +kernel
theorem dX11_its_12 : decode cX11_its 12 = .ok (.iaload, 1) := by decide +kernel
theorem dX11_its_13 : decode cX11_its 13 = .ok (.ireturn, 1) := by decide +kernel
theorem dX11_puts_0 : decode cX11_puts 0 = .ok (.aload_n 0, 1) := by decide +kernel
theorem dX11_puts_1 : decode cX11_puts 1 = .ok (.getfield 7, 3) := by decide +kernel
theorem dX11_puts_4 : decode cX11_puts 4 = .ok (.bipush 10, 2) := by decide +kernel
theorem dX11_puts_6 : decode cX11_puts 6 = .ok (.iconst 5, 1) := by decide +kernel
theorem dX11_puts_7 : decode cX11_puts 7 = .ok (.iload_n 1, 1) := by decide +kernel
theorem dX11_puts_8 : decode cX11_puts 8 = .ok (.imul, 1) := by decide +kernel
theorem dX11_puts_9 : decode cX11_puts 9 = .ok (.iadd, 1) := by decide +kernel
theorem dX11_puts_10 : decode cX11_puts 10 = .ok (.iload_n 2, 1) := by decide +kernel
theorem dX11_puts_11 : decode cX11_puts 11 = .ok (.iadd, 1) := by decide +kernel
theorem dX11_puts_12 : decode cX11_puts 12 = .ok (.iload_n 3, 1) := by decide +kernel
theorem dX11_puts_13 : decode cX11_puts 13 = .ok (.iastore, 1) := by decide +kernel
theorem dX11_puts_14 : decode cX11_puts 14 = .ok (.return_, 1) := by decide +kernel
theorem dX11_hall_0 : decode cX11_hall 0 = .ok (.iload_n 1, 1) := by decide +kernel
theorem dX11_hall_1 : decode cX11_hall 1 = .ok (.iconst 1, 1) := by decide +kernel
theorem dX11_hall_2 : decode cX11_hall 2 = .ok (.iconst 5, 1) := by decide +kernel
theorem dX11_hall_3 : decode cX11_hall 3 = .ok (.invokestatic 71, 3) := by decide +kernel
theorem dX11_hall_6 : decode cX11_hall 6 = .ok (.ifCond .eq 12, 3) := by decide +kernel
theorem dX11_hall_9 : decode cX11_hall 9 = .ok (.iload_n 2, 1) := by decide +kernel
theorem dX11_hall_10 : decode cX11_hall 10 = .ok (.iconst 1, 1) := by decide +kernel
theorem dX11_hall_11 : decode cX11_hall 11 = .ok (.iconst 5, 1) := by decide +kernel
theorem dX11_hall_12 : decode cX11_hall 12 = .ok (.invokestatic 71, 3) := by decide +kernel
theorem dX11_hall_15 : decode cX11_hall 15 = .ok (.ifCond .ne 10, 3) := by decide +kernel
theorem dX11_hall_18 : decode cX11_hall 18 = .ok (.aload_n 0, 1) := by decide +kernel
theorem dX11_hall_19 : decode cX11_hall 19 = .ok (.ldc 78, 2) := by decide +kernel
theorem dX11_hall_21 : decode cX11_hall 21 = .ok (.invokevirtual 79, 3) := by decide +kernel
theorem dX11_hall_24 : decode cX11_hall 24 = .ok (.ireturn, 1) := by decide +kernel
theorem dX11_hall_25 : decode cX11_hall 25 = .ok (.aload_n 0, 1) := by decide +kernel
theorem dX11_hall_26 : decode cX11_hall 26 = .ok (.getfield 7, 3) := by decide +kernel
theorem dX11_hall_29 : decode cX11_hall 29 = .ok (.iconst 0, 1) := by decide +kernel
theorem dX11_hall_30 : decode cX11_hall 30 = .ok (.iload_n 1, 1) := by decide +kernel
theorem dX11_hall_31 : decode cX11_hall 31 = .ok (.iastore, 1) := by decide +kernel
theorem dX11_hall_32 : decode cX11_hall 32 = .ok (.aload_n 0, 1) := by decide +kernel
theorem dX11_hall_33 : decode cX11_hall 33 = .ok (.getfield 7, 3) := by decide +kernel
theorem dX11_hall_36 : decode cX11_hall 36 = .ok (.iconst 1, 1) := by decide +kernel
theorem dX11_hall_37 : decode cX11_hall 37 = .ok (.iload_n 2, 1) := by decide +kernel
theorem dX11_hall_38 : decode cX11_hall 38 = .ok (.iastore, 1) := by decide +kernel
theorem dX11_hall_39 : decode cX11_hall 39 = .ok (.bipush 10, 2) := by decide +kernel
theorem dX11_hall_41 : decode cX11_hall 41 = .ok (.istore_n 3, 1) := by decide +kernel
theorem dX11_hall_42 : decode cX11_hall 42 = .ok (.iload_n 3, 1) := by decide +kernel
theorem dX11_hall_43 : decode cX11_hall 43 = .ok (.sipush 135, 3) := by decide +kernel
theorem dX11_hall_46 : decode cX11_hall 46 = .ok (.if_icmp .ge 16, 3) := by decide +kernel
theorem dX11_hall_49 : decode cX11_hall 49 = .ok (.aload_n 0, 1) := by decide +kernel
theorem dX11_hall_50 : decode cX11_hall 50 = .ok (.getfield 7, 3) := by decide +kernel
theorem dX11_hall_53 : decode cX11_hall 53 = .ok (.iload_n 3, 1) := by decide +kernel
theorem dX11_hall_54 : decode cX11_hall 54 = .ok (.iconst 0, 1) := by decide +kernel
theorem dX11_hall_55 : decode cX11_hall 55 = .ok (.iastore, 1) := by decide +kernel
theorem dX11_hall_56 : decode cX11_hall 56 = .ok (.iinc 3 1, 3) := by decide +kernel
theorem dX11_hall_59 : decode cX11_hall 59 = .ok (.goto (-17), 3) := by decide +kernel
theorem dX11_hall_62 : decode cX11_hall 62 = .ok (.aload_n 0, 1) := by decide +kernel
theorem dX11_hall_63 : decode cX11_hall 63 = .ok (.invokevirtual 75, 3) := by decide +kernel
theorem dX11_hall_66 : decode cX11_hall 66 = .ok (.ireturn, 1) := by decide +kernel
theorem dX11_square_0 : decode cX11_square 0 = .ok (.aload_n 0, 1) := by decide +kernel
theorem dX11_square_1 : decode cX11_square 1 = .ok (.iload_n 1, 1) := by decide +kernel
theorem dX11_square_2 : decode cX11_square 2 = .ok (.invokevirtual 83, 3) := by decide +kernel
theorem dX11_square_5 : decode cX11_square 5 = .ok (.ifCond .eq 22, 3) := by decide +kernel
theorem dX11_square_8 : decode cX11_square 8 = .ok (.iload_n 2, 1) := by decide +kernel
theorem dX11_square_9 : decode cX11_square 9 = .ok (.iconst 0, 1) := by decide +kernel
theorem dX11_square_10 : decode cX11_square 10 = .ok (.bipush 69, 2) := by decide +kernel
theorem dX11_square_12 : decode cX11_square 12 = .ok (.invokestatic 71, 3) := by decide +kernel
theorem dX11_square_15 : decode cX11_square 15 = .ok (.ifCond .eq 12, 3) := by decide +kernel
theorem dX11_square_18 : decode cX11_square 18 = .ok (.iload_n 3, 1) := by decide +kernel
theorem dX11_square_19 : decode cX11_square 19 = .ok (.iconst 0, 1) := by decide +kernel
theorem dX11_square_20 : decode cX11_square 20 = .ok (.iconst 1, 1) := by decide +kernel
theorem dX11_square_21 : decode cX11_square 21 = .ok (.invokestatic 71, 3) := by decide +kernel
theorem dX11_square_24 : decode cX11_square 24 = .ok (.ifCond .ne 10, 3) := by decide +kernel
theorem dX11_square_27 : decode cX11_square 27 = .ok (.aload_n 0, 1) := by decide +kernel
theorem dX11_square_28 : decode cX11_square 28 = .ok (.ldc 78, 2) := by decide +kernel
theorem dX11_square_30 : decode cX11_square 30 = .ok (.invokevirtual 79, 3) := by decide +kernel
theorem dX11_square_33 : decode cX11_square 33 = .ok (.ireturn, 1) := by decide +kernel
theorem dX11_square_34 : decode cX11_square 34 = .ok (.aload_n 0, 1) := by decide +kernel
theorem dX11_square_35 : decode cX11_square 35 = .ok (.iload_n 1, 1) := by decide +kernel
theorem dX11_square_36 : decode cX11_square 36 = .ok (.iconst 0, 1) := by decide +kernel
theorem dX11_square_37 : decode cX11_square 37 = .ok (.invokevirtual 87, 3) := by decide +kernel
theorem dX11_square_40 : decode cX11_square 40 = .ok (.istore 4, 2) := by decide +kernel
theorem dX11_square_42 : decode cX11_square 42 = .ok (.aload_n 0, 1) := by decide +kernel
theorem dX11_square_43 : decode cX11_square 43 = .ok (.iload_n 1, 1) := by decide +kernel
theorem dX11_square_44 : decode cX11_square 44 = .ok (.iconst 0, 1) := by decide +kernel
theorem dX11_square_45 : decode cX11_square 45 = .ok (.iload_n 2, 1) := by decide +kernel
theorem dX11_square_46 : decode cX11_square 46 = .ok (.bipush 10, 2) := by decide +kernel
theorem dX11_square_48 : decode cX11_square 48 = .ok (.idiv, 1) := by decide +kernel
theorem dX11_square_49 : decode cX11_square 49 = .ok (.invokevirtual 91, 3) := by decide +kernel
theorem dX11_square_52 : decode cX11_square 52 = .ok (.aload_n 0, 1) := by decide +kernel
theorem dX11_square_53 : decode cX11_square 53 = .ok (.iload_n 1, 1) := by decide +kernel
theorem dX11_square_54 : decode cX11_square 54 = .ok (.iconst 1, 1) := by decide +kernel
theorem dX11_square_55 : decode cX11_square 55 = .ok (.iload_n 2, 1) := by decide +kernel
theorem dX11_square_56 : decode cX11_square 56 = .ok (.bipush 10, 2) := by decide +kernel
theorem dX11_square_58 : decode cX11_square 58 = .ok (.irem, 1) := by decide +kernel
theorem dX11_square_59 : decode cX11_square 59 = .ok (.invokevirtual 91, 3) := by decide +kernel
theorem dX11_square_62 : decode cX11_square 62 = .ok (.aload_n 0, 1) := by decide +kernel
theorem dX11_square_63 : decode cX11_square 63 = .ok (.iload_n 1, 1) := by decide +kernel
theorem dX11_square_64 : decode cX11_square 64 = .ok (.iconst 2, 1) := by decide +kernel
theorem dX11_square_65 : decode cX11_square 65 = .ok (.iload_n 3, 1) := by decide +kernel
theorem dX11_square_66 : decode cX11_square 66 = .ok (.invokevirtual 91, 3) := by decide +kernel
theorem dX11_square_69 : decode cX11_square 69 = .ok (.aload_n 0, 1) := by decide +kernel
theorem dX11_square_70 : decode cX11_square 70 = .ok (.iload_n 1, 1) := by decide +kernel
theorem dX11_square_71 : decode cX11_square 71 = .ok (.iconst 3, 1) := by decide +kernel
theorem dX11_square_72 : decode cX11_square 72 = .ok (.iconst 0, 1) := by decide +kernel
theorem dX11_square_73 : decode cX11_square 73 = .ok (.invokevirtual 91, 3) := by decide +kernel
theorem dX11_square_76 : decode cX11_square 76 = .ok (.iload 4, 2) := by decide +kernel
theorem dX11_square_78 : decode cX11_square 78 = .ok (.ireturn, 1) := by decide +kernel
theorem dX11_doesThrow_0 : decode cX11_doesThrow 0 = .ok (.aload_n 0, 1) := by decide +kernel
theorem dX11_doesThrow_1 : decode cX11_doesThrow 1 = .ok (.iload_n 1, 1) := by decide +kernel
theorem dX11_doesThrow_2 : decode cX11_doesThrow 2 = .ok (.iconst 0, 1) := by decide +kernel
theorem dX11_doesThrow_3 : decode cX11_doesThrow 3 = .ok (.invokevirtual 87, 3) := by decide +kernel
theorem dX11_doesThrow_6 : decode cX11_doesThrow 6 = .ok (.istore_n 2, 1) := by decide +kernel
theorem dX11_doesThrow_7 : decode cX11_doesThrow 7 = .ok (.iload_n 2, 1) := by decide +kernel
theorem dX11_doesThrow_8 : decode cX11_doesThrow 8 = .ok (.iconst 1, 1) := by decide +kernel
theorem dX11_doesThrow_9 : decode cX11_doesThrow 9 = .ok (.if_icmp .eq 13, 3) := by decide +kernel
theorem dX11_doesThrow_12 : decode cX11_doesThrow 12 = .ok (.iload_n 2, 1) := by decide +kernel
theorem dX11_doesThrow_13 : decode cX11_doesThrow 13 = .ok (.iconst 4, 1) := by decide +kernel
theorem dX11_doesThrow_14 : decode cX11_doesThrow 14 = .ok (.if_icmp .eq 8, 3) := by decide +kernel
theorem dX11_doesThrow_17 : decode cX11_doesThrow 17 = .ok (.iload_n 2, 1) := by decide +kernel
theorem dX11_doesThrow_18 : decode cX11_doesThrow 18 = .ok (.iconst 5, 1) := by decide +kernel
theorem dX11_doesThrow_19 : decode cX11_doesThrow 19 = .ok (.if_icmp .ne 7, 3) := by decide +kernel
theorem dX11_doesThrow_22 : decode cX11_doesThrow 22 = .ok (.iconst 1, 1) := by decide +kernel
theorem dX11_doesThrow_23 : decode cX11_doesThrow 23 = .ok (.goto 4, 3) := by decide +kernel
theorem dX11_doesThrow_26 : decode cX11_doesThrow 26 = .ok (.iconst 0, 1) := by decide +kernel
theorem dX11_doesThrow_27 : decode cX11_doesThrow 27 = .ok (.ireturn, 1) := by decide +kernel
theorem dX11_doesStop_0 : decode cX11_doesStop 0 = .ok (.aload_n 0, 1) := by decide +kernel
theorem dX11_doesStop_1 : decode cX11_doesStop 1 = .ok (.iload_n 1, 1) := by decide +kernel
theorem dX11_doesStop_2 : decode cX11_doesStop 2 = .ok (.iconst 0, 1) := by decide +kernel
theorem dX11_doesStop_3 : decode cX11_doesStop 3 = .ok (.invokevirtual 87, 3) := by decide +kernel
theorem dX11_doesStop_6 : decode cX11_doesStop 6 = .ok (.istore_n 2, 1) := by decide +kernel
theorem dX11_doesStop_7 : decode cX11_doesStop 7 = .ok (.iload_n 2, 1) := by decide +kernel
theorem dX11_doesStop_8 : decode cX11_doesStop 8 = .ok (.iconst 3, 1) := by decide +kernel
theorem dX11_doesStop_9 : decode cX11_doesStop 9 = .ok (.if_icmp .eq 9, 3) := by decide +kernel
theorem dX11_doesStop_12 : decode cX11_doesStop 12 = .ok (.iload_n 2, 1) := by decide +kernel
theorem dX11_doesStop_13 : decode cX11_doesStop 13 = .ok (.bipush 6, 2) := by decide +kernel
theorem dX11_doesStop_15 : decode cX11_doesStop 15 = .ok (.if_icmp .ne 7, 3) := by decide +kernel
theorem dX11_doesStop_18 : decode cX11_doesStop 18 = .ok (.iconst 1, 1) := by decide +kernel
theorem dX11_doesStop_19 : decode cX11_doesStop 19 = .ok (.goto 4, 3) := by decide +kernel
theorem dX11_doesStop_22 : decode cX11_doesStop 22 = .ok (.iconst 0, 1) := by decide +kernel
theorem dX11_doesStop_23 : decode cX11_doesStop 23 = .ok (.ireturn, 1) := by decide +kernel
theorem dX11_canTurn_0 : decode cX11_canTurn 0 = .ok (.aload_n 0, 1) := by decide +kernel
theorem dX11_canTurn_1 : decode cX11_canTurn 1 = .ok (.iload_n 1, 1) := by decide +kernel
theorem dX11_canTurn_2 : decode cX11_canTurn 2 = .ok (.iconst 0, 1) := by decide +kernel
theorem dX11_canTurn_3 : decode cX11_canTurn 3 = .ok (.invokevirtual 87, 3) := by decide +kernel
theorem dX11_canTurn_6 : decode cX11_canTurn 6 = .ok (.istore_n 2, 1) := by decide +kernel
theorem dX11_canTurn_7 : decode cX11_canTurn 7 = .ok (.iload_n 2, 1) := by decide +kernel
theorem dX11_canTurn_8 : decode cX11_canTurn 8 = .ok (.iconst 1, 1) := by decide +kernel
theorem dX11_canTurn_9 : decode cX11_canTurn 9 = .ok (.if_icmp .eq 8, 3) := by decide +kernel
theorem dX11_canTurn_12 : decode cX11_canTurn 12 = .ok (.iload_n 2, 1) := by decide +kernel
theorem dX11_canTurn_13 : decode cX11_canTurn 13 = .ok (.iconst 5, 1) := by decide +kernel
theorem dX11_canTurn_14 : decode cX11_canTurn 14 = .ok (.if_icmp .ne 7, 3) := by decide +kernel
theorem dX11_canTurn_17 : decode cX11_canTurn 17 = .ok (.iconst 1, 1) := by decide +kernel
theorem dX11_canTurn_18 : decode cX11_canTurn 18 = .ok (.goto 4, 3) := by decide +kernel
theorem dX11_canTurn_21 : decode cX11_canTurn 21 = .ok (.iconst 0, 1) := by decide +kernel
theorem dX11_canTurn_22 : decode cX11_canTurn 22 = .ok (.ireturn, 1) := by decide +kernel
theorem dX11_costOf_0 : decode cX11_costOf 0 = .ok (.aload_n 0, 1) := by decide +kernel
theorem dX11_costOf_1 : decode cX11_costOf 1 = .ok (.iconst 0, 1) := by decide +kernel
theorem dX11_costOf_2 : decode cX11_costOf 2 = .ok (.iload_n 1, 1) := by decide +kernel
theorem dX11_costOf_3 : decode cX11_costOf 3 = .ok (.aload_n 0, 1) := by decide +kernel
theorem dX11_costOf_4 : decode cX11_costOf 4 = .ok (.getfield 7, 3) := by decide +kernel
theorem dX11_costOf_7 : decode cX11_costOf 7 = .ok (.iconst 1, 1) := by decide +kernel
theorem dX11_costOf_8 : decode cX11_costOf 8 = .ok (.iaload, 1) := by decide +kernel
theorem dX11_costOf_9 : decode cX11_costOf 9 = .ok (.idiv, 1) := by decide +kernel
theorem dX11_costOf_10 : decode cX11_costOf 10 = .ok (.iload_n 1, 1) := by decide +kernel
theorem dX11_costOf_11 : decode cX11_costOf 11 = .ok (.aload_n 0, 1) := by decide +kernel
theorem dX11_costOf_12 : decode cX11_costOf 12 = .ok (.getfield 7, 3) := by decide +kernel
theorem dX11_costOf_15 : decode cX11_costOf 15 = .ok (.iconst 1, 1) := by decide +kernel
theorem dX11_costOf_16 : decode cX11_costOf 16 = .ok (.iaload, 1) := by decide +kernel
theorem dX11_costOf_17 : decode cX11_costOf 17 = .ok (.irem, 1) := by decide +kernel
theorem dX11_costOf_18 : decode cX11_costOf 18 = .ok (.aload_n 0, 1) := by decide +kernel
theorem dX11_costOf_19 : decode cX11_costOf 19 = .ok (.iload_n 1, 1) := by decide +kernel
theorem dX11_costOf_20 : decode cX11_costOf 20 = .ok (.iconst 1, 1) := by decide +kernel
theorem dX11_costOf_21 : decode cX11_costOf 21 = .ok (.invokevirtual 87, 3) := by decide +kernel
theorem dX11_costOf_24 : decode cX11_costOf 24 = .ok (.invokevirtual 95, 3) := by decide +kernel
theorem dX11_costOf_27 : decode cX11_costOf 27 = .ok (.ireturn, 1) := by decide +kernel
theorem dX11_ofSquare_0 : decode cX11_ofSquare 0 = .ok (.aload_n 0, 1) := by decide +kernel
theorem dX11_ofSquare_1 : decode cX11_ofSquare 1 = .ok (.iload_n 1, 1) := by decide +kernel
theorem dX11_ofSquare_2 : decode cX11_ofSquare 2 = .ok (.invokevirtual 83, 3) := by decide +kernel
theorem dX11_ofSquare_5 : decode cX11_ofSquare 5 = .ok (.ifCond .eq 13, 3) := by decide +kernel
theorem dX11_ofSquare_8 : decode cX11_ofSquare 8 = .ok (.iload_n 2, 1) := by decide +kernel
theorem dX11_ofSquare_9 : decode cX11_ofSquare 9 = .ok (.iconst 0, 1) := by decide +kernel
theorem dX11_ofSquare_10 : decode cX11_ofSquare 10 = .ok (.bipush 7, 2) := by decide +kernel
theorem dX11_ofSquare_12 : decode cX11_ofSquare 12 = .ok (.invokestatic 71, 3) := by decide +kernel
theorem dX11_ofSquare_15 : decode cX11_ofSquare 15 = .ok (.ifCond .ne 10, 3) := by decide +kernel
theorem dX11_ofSquare_18 : decode cX11_ofSquare 18 = .ok (.aload_n 0, 1) := by decide +kernel
theorem dX11_ofSquare_19 : decode cX11_ofSquare 19 = .ok (.ldc 78, 2) := by decide +kernel
theorem dX11_ofSquare_21 : decode cX11_ofSquare 21 = .ok (.invokevirtual 79, 3) := by decide +kernel
theorem dX11_ofSquare_24 : decode cX11_ofSquare 24 = .ok (.ireturn, 1) := by decide +kernel
theorem dX11_ofSquare_25 : decode cX11_ofSquare 25 = .ok (.iload_n 2, 1) := by decide +kernel
theorem dX11_ofSquare_26 : decode cX11_ofSquare 26 = .ok (.tableswitch 72 5 7 #[26, 44, 58], 26) := by decide +kernel
theorem dX11_ofSquare_52 : decode cX11_ofSquare 52 = .ok (.aload_n 0, 1) := by decide +kernel
theorem dX11_ofSquare_53 : decode cX11_ofSquare 53 = .ok (.iload_n 1, 1) := by decide +kernel
theorem dX11_ofSquare_54 : decode cX11_ofSquare 54 = .ok (.invokevirtual 99, 3) := by decide +kernel
theorem dX11_ofSquare_57 : decode cX11_ofSquare 57 = .ok (.ifCond .eq 11, 3) := by decide +kernel
theorem dX11_ofSquare_60 : decode cX11_ofSquare 60 = .ok (.aload_n 0, 1) := by decide +kernel
theorem dX11_ofSquare_61 : decode cX11_ofSquare 61 = .ok (.iload_n 1, 1) := by decide +kernel
theorem dX11_ofSquare_62 : decode cX11_ofSquare 62 = .ok (.invokevirtual 102, 3) := by decide +kernel
theorem dX11_ofSquare_65 : decode cX11_ofSquare 65 = .ok (.goto 4, 3) := by decide +kernel
theorem dX11_ofSquare_68 : decode cX11_ofSquare 68 = .ok (.iconst (-1), 1) := by decide +kernel
theorem dX11_ofSquare_69 : decode cX11_ofSquare 69 = .ok (.ireturn, 1) := by decide +kernel
theorem dX11_ofSquare_70 : decode cX11_ofSquare 70 = .ok (.aload_n 0, 1) := by decide +kernel
theorem dX11_ofSquare_71 : decode cX11_ofSquare 71 = .ok (.iload_n 1, 1) := by decide +kernel
theorem dX11_ofSquare_72 : decode cX11_ofSquare 72 = .ok (.invokevirtual 105, 3) := by decide +kernel
theorem dX11_ofSquare_75 : decode cX11_ofSquare 75 = .ok (.ifCond .eq 7, 3) := by decide +kernel
theorem dX11_ofSquare_78 : decode cX11_ofSquare 78 = .ok (.iconst 1, 1) := by decide +kernel
theorem dX11_ofSquare_79 : decode cX11_ofSquare 79 = .ok (.goto 4, 3) := by decide +kernel
theorem dX11_ofSquare_82 : decode cX11_ofSquare 82 = .ok (.iconst 0, 1) := by decide +kernel
theorem dX11_ofSquare_83 : decode cX11_ofSquare 83 = .ok (.ireturn, 1) := by decide +kernel
theorem dX11_ofSquare_84 : decode cX11_ofSquare 84 = .ok (.aload_n 0, 1) := by decide +kernel
theorem dX11_ofSquare_85 : decode cX11_ofSquare 85 = .ok (.iload_n 1, 1) := by decide +kernel
theorem dX11_ofSquare_86 : decode cX11_ofSquare 86 = .ok (.invokevirtual 108, 3) := by decide +kernel
theorem dX11_ofSquare_89 : decode cX11_ofSquare 89 = .ok (.ifCond .eq 7, 3) := by decide +kernel
theorem dX11_ofSquare_92 : decode cX11_ofSquare 92 = .ok (.iconst 1, 1) := by decide +kernel
theorem dX11_ofSquare_93 : decode cX11_ofSquare 93 = .ok (.goto 4, 3) := by decide +kernel
theorem dX11_ofSquare_96 : decode cX11_ofSquare 96 = .ok (.iconst 0, 1) := by decide +kernel
theorem dX11_ofSquare_97 : decode cX11_ofSquare 97 = .ok (.ireturn, 1) := by decide +kernel
theorem dX11_ofSquare_98 : decode cX11_ofSquare 98 = .ok (.aload_n 0, 1) := by decide +kernel
theorem dX11_ofSquare_99 : decode cX11_ofSquare 99 = .ok (.iload_n 1, 1) := by decide +kernel
theorem dX11_ofSquare_100 : decode cX11_ofSquare 100 = .ok (.iload_n 2, 1) := by decide +kernel
theorem dX11_ofSquare_101 : decode cX11_ofSquare 101 = .ok (.invokevirtual 87, 3) := by decide +kernel
theorem dX11_ofSquare_104 : decode cX11_ofSquare 104 = .ok (.ireturn, 1) := by decide +kernel
theorem dX11_above_0 : decode cX11_above 0 = .ok (.iload_n 0, 1) := by decide +kernel
theorem dX11_above_1 : decode cX11_above 1 = .ok (.ifCond .ne 7, 3) := by decide +kernel
theorem dX11_above_4 : decode cX11_above 4 = .ok (.iconst (-1), 1) := by decide +kernel
theorem dX11_above_5 : decode cX11_above 5 = .ok (.goto 28, 3) := by decide +kernel
theorem dX11_above_8 : decode cX11_above 8 = .ok (.iload_n 0, 1) := by decide +kernel
theorem dX11_above_9 : decode cX11_above 9 = .ok (.iconst 4, 1) := by decide +kernel
theorem dX11_above_10 : decode cX11_above 10 = .ok (.if_icmp .eq 8, 3) := by decide +kernel
theorem dX11_above_13 : decode cX11_above 13 = .ok (.iload_n 0, 1) := by decide +kernel
theorem dX11_above_14 : decode cX11_above 14 = .ok (.iconst 5, 1) := by decide +kernel
theorem dX11_above_15 : decode cX11_above 15 = .ok (.if_icmp .ne 7, 3) := by decide +kernel
theorem dX11_above_18 : decode cX11_above 18 = .ok (.iconst 1, 1) := by decide +kernel
theorem dX11_above_19 : decode cX11_above 19 = .ok (.goto 14, 3) := by decide +kernel
theorem dX11_above_22 : decode cX11_above 22 = .ok (.iload_n 0, 1) := by decide +kernel
theorem dX11_above_23 : decode cX11_above 23 = .ok (.bipush 6, 2) := by decide +kernel
theorem dX11_above_25 : decode cX11_above 25 = .ok (.if_icmp .ne 7, 3) := by decide +kernel
theorem dX11_above_28 : decode cX11_above 28 = .ok (.iconst 2, 1) := by decide +kernel
theorem dX11_above_29 : decode cX11_above 29 = .ok (.goto 4, 3) := by decide +kernel
theorem dX11_above_32 : decode cX11_above 32 = .ok (.iconst 0, 1) := by decide +kernel
theorem dX11_above_33 : decode cX11_above 33 = .ok (.ireturn, 1) := by decide +kernel
theorem dX11_as_0 : decode cX11_as 0 = .ok (.aload_n 0, 1) := by decide +kernel
theorem dX11_as_1 : decode cX11_as 1 = .ok (.iload_n 1, 1) := by decide +kernel
theorem dX11_as_2 : decode cX11_as 2 = .ok (.invokevirtual 83, 3) := by decide +kernel
theorem dX11_as_5 : decode cX11_as 5 = .ok (.ifCond .eq 13, 3) := by decide +kernel
theorem dX11_as_8 : decode cX11_as 8 = .ok (.iload_n 2, 1) := by decide +kernel
theorem dX11_as_9 : decode cX11_as 9 = .ok (.iconst 0, 1) := by decide +kernel
theorem dX11_as_10 : decode cX11_as 10 = .ok (.bipush 6, 2) := by decide +kernel
theorem dX11_as_12 : decode cX11_as 12 = .ok (.invokestatic 71, 3) := by decide +kernel
theorem dX11_as_15 : decode cX11_as 15 = .ok (.ifCond .ne 10, 3) := by decide +kernel
theorem dX11_as_18 : decode cX11_as 18 = .ok (.aload_n 0, 1) := by decide +kernel
theorem dX11_as_19 : decode cX11_as 19 = .ok (.ldc 78, 2) := by decide +kernel
theorem dX11_as_21 : decode cX11_as 21 = .ok (.invokevirtual 79, 3) := by decide +kernel
theorem dX11_as_24 : decode cX11_as 24 = .ok (.ireturn, 1) := by decide +kernel
theorem dX11_as_25 : decode cX11_as 25 = .ok (.aload_n 0, 1) := by decide +kernel
theorem dX11_as_26 : decode cX11_as 26 = .ok (.iload_n 1, 1) := by decide +kernel
theorem dX11_as_27 : decode cX11_as 27 = .ok (.iconst 0, 1) := by decide +kernel
theorem dX11_as_28 : decode cX11_as 28 = .ok (.invokevirtual 87, 3) := by decide +kernel
theorem dX11_as_31 : decode cX11_as 31 = .ok (.istore_n 3, 1) := by decide +kernel
theorem dX11_as_32 : decode cX11_as 32 = .ok (.iload_n 3, 1) := by decide +kernel
theorem dX11_as_33 : decode cX11_as 33 = .ok (.ifCond .lt 16, 3) := by decide +kernel
theorem dX11_as_36 : decode cX11_as 36 = .ok (.iload_n 3, 1) := by decide +kernel
theorem dX11_as_37 : decode cX11_as 37 = .ok (.iload_n 2, 1) := by decide +kernel
theorem dX11_as_38 : decode cX11_as 38 = .ok (.if_icmp .eq 11, 3) := by decide +kernel
theorem dX11_as_41 : decode cX11_as 41 = .ok (.iload_n 3, 1) := by decide +kernel
theorem dX11_as_42 : decode cX11_as 42 = .ok (.invokestatic 111, 3) := by decide +kernel
theorem dX11_as_45 : decode cX11_as 45 = .ok (.istore_n 3, 1) := by decide +kernel
theorem dX11_as_46 : decode cX11_as 46 = .ok (.goto (-14), 3) := by decide +kernel
theorem dX11_as_49 : decode cX11_as 49 = .ok (.iload_n 3, 1) := by decide +kernel
theorem dX11_as_50 : decode cX11_as 50 = .ok (.ifCond .ge 12, 3) := by decide +kernel
theorem dX11_as_53 : decode cX11_as 53 = .ok (.aload_n 0, 1) := by decide +kernel
theorem dX11_as_54 : decode cX11_as 54 = .ok (.ldc 114, 2) := by decide +kernel
theorem dX11_as_56 : decode cX11_as 56 = .ok (.invokevirtual 79, 3) := by decide +kernel
theorem dX11_as_59 : decode cX11_as 59 = .ok (.goto 9, 3) := by decide +kernel
theorem dX11_as_62 : decode cX11_as 62 = .ok (.aload_n 0, 1) := by decide +kernel
theorem dX11_as_63 : decode cX11_as 63 = .ok (.iload_n 1, 1) := by decide +kernel
theorem dX11_as_64 : decode cX11_as 64 = .ok (.iconst 1, 1) := by decide +kernel
theorem dX11_as_65 : decode cX11_as 65 = .ok (.invokevirtual 87, 3) := by decide +kernel
theorem dX11_as_68 : decode cX11_as 68 = .ok (.ireturn, 1) := by decide +kernel
theorem dX11_takes_0 : decode cX11_takes 0 = .ok (.aload_n 0, 1) := by decide +kernel
theorem dX11_takes_1 : decode cX11_takes 1 = .ok (.getfield 7, 3) := by decide +kernel
theorem dX11_takes_4 : decode cX11_takes 4 = .ok (.iconst 2, 1) := by decide +kernel
theorem dX11_takes_5 : decode cX11_takes 5 = .ok (.aload_n 0, 1) := by decide +kernel
theorem dX11_takes_6 : decode cX11_takes 6 = .ok (.getfield 7, 3) := by decide +kernel
theorem dX11_takes_9 : decode cX11_takes 9 = .ok (.iconst 2, 1) := by decide +kernel
theorem dX11_takes_10 : decode cX11_takes 10 = .ok (.iaload, 1) := by decide +kernel
theorem dX11_takes_11 : decode cX11_takes 11 = .ok (.iload_n 1, 1) := by decide +kernel
theorem dX11_takes_12 : decode cX11_takes 12 = .ok (.iadd, 1) := by decide +kernel
theorem dX11_takes_13 : decode cX11_takes 13 = .ok (.ldc 115, 2) := by decide +kernel
theorem dX11_takes_15 : decode cX11_takes 15 = .ok (.ldc 116, 2) := by decide +kernel
theorem dX11_takes_17 : decode cX11_takes 17 = .ok (.invokestatic 117, 3) := by decide +kernel
theorem dX11_takes_20 : decode cX11_takes 20 = .ok (.iastore, 1) := by decide +kernel
theorem dX11_takes_21 : decode cX11_takes 21 = .ok (.return_, 1) := by decide +kernel
theorem dX11_flips_0 : decode cX11_flips 0 = .ok (.aload_n 0, 1) := by decide +kernel
theorem dX11_flips_1 : decode cX11_flips 1 = .ok (.iload_n 1, 1) := by decide +kernel
theorem dX11_flips_2 : decode cX11_flips 2 = .ok (.iconst 2, 1) := by decide +kernel
theorem dX11_flips_3 : decode cX11_flips 3 = .ok (.iconst 1, 1) := by decide +kernel
theorem dX11_flips_4 : decode cX11_flips 4 = .ok (.aload_n 0, 1) := by decide +kernel
theorem dX11_flips_5 : decode cX11_flips 5 = .ok (.iload_n 1, 1) := by decide +kernel
theorem dX11_flips_6 : decode cX11_flips 6 = .ok (.iconst 2, 1) := by decide +kernel
theorem dX11_flips_7 : decode cX11_flips 7 = .ok (.invokevirtual 87, 3) := by decide +kernel
theorem dX11_flips_10 : decode cX11_flips 10 = .ok (.isub, 1) := by decide +kernel
theorem dX11_flips_11 : decode cX11_flips 11 = .ok (.invokevirtual 91, 3) := by decide +kernel
theorem dX11_flips_14 : decode cX11_flips 14 = .ok (.return_, 1) := by decide +kernel
theorem dX11_hands_0 : decode cX11_hands 0 = .ok (.aload_n 0, 1) := by decide +kernel
theorem dX11_hands_1 : decode cX11_hands 1 = .ok (.aload_n 0, 1) := by decide +kernel
theorem dX11_hands_2 : decode cX11_hands 2 = .ok (.iload_n 1, 1) := by decide +kernel
theorem dX11_hands_3 : decode cX11_hands 3 = .ok (.invokevirtual 102, 3) := by decide +kernel
theorem dX11_hands_6 : decode cX11_hands 6 = .ok (.ineg, 1) := by decide +kernel
theorem dX11_hands_7 : decode cX11_hands 7 = .ok (.invokevirtual 121, 3) := by decide +kernel
theorem dX11_hands_10 : decode cX11_hands 10 = .ok (.aload_n 0, 1) := by decide +kernel
theorem dX11_hands_11 : decode cX11_hands 11 = .ok (.iload_n 1, 1) := by decide +kernel
theorem dX11_hands_12 : decode cX11_hands 12 = .ok (.invokevirtual 125, 3) := by decide +kernel
theorem dX11_hands_15 : decode cX11_hands 15 = .ok (.return_, 1) := by decide +kernel
theorem dX11_hand_0 : decode cX11_hand 0 = .ok (.aload_n 0, 1) := by decide +kernel
theorem dX11_hand_1 : decode cX11_hand 1 = .ok (.iload_n 1, 1) := by decide +kernel
theorem dX11_hand_2 : decode cX11_hand 2 = .ok (.invokevirtual 83, 3) := by decide +kernel
theorem dX11_hand_5 : decode cX11_hand 5 = .ok (.ifCond .ne 10, 3) := by decide +kernel
theorem dX11_hand_8 : decode cX11_hand 8 = .ok (.aload_n 0, 1) := by decide +kernel
theorem dX11_hand_9 : decode cX11_hand 9 = .ok (.ldc 78, 2) := by decide +kernel
theorem dX11_hand_11 : decode cX11_hand 11 = .ok (.invokevirtual 79, 3) := by decide +kernel
theorem dX11_hand_14 : decode cX11_hand 14 = .ok (.ireturn, 1) := by decide +kernel
theorem dX11_hand_15 : decode cX11_hand 15 = .ok (.aload_n 0, 1) := by decide +kernel
theorem dX11_hand_16 : decode cX11_hand 16 = .ok (.iload_n 1, 1) := by decide +kernel
theorem dX11_hand_17 : decode cX11_hand 17 = .ok (.invokevirtual 99, 3) := by decide +kernel
theorem dX11_hand_20 : decode cX11_hand 20 = .ok (.ifCond .ne 10, 3) := by decide +kernel
theorem dX11_hand_23 : decode cX11_hand 23 = .ok (.aload_n 0, 1) := by decide +kernel
theorem dX11_hand_24 : decode cX11_hand 24 = .ok (.ldc 128, 2) := by decide +kernel
theorem dX11_hand_26 : decode cX11_hand 26 = .ok (.invokevirtual 79, 3) := by decide +kernel
theorem dX11_hand_29 : decode cX11_hand 29 = .ok (.ireturn, 1) := by decide +kernel
theorem dX11_hand_30 : decode cX11_hand 30 = .ok (.aload_n 0, 1) := by decide +kernel
theorem dX11_hand_31 : decode cX11_hand 31 = .ok (.iload_n 1, 1) := by decide +kernel
theorem dX11_hand_32 : decode cX11_hand 32 = .ok (.invokevirtual 129, 3) := by decide +kernel
theorem dX11_hand_35 : decode cX11_hand 35 = .ok (.aload_n 0, 1) := by decide +kernel
theorem dX11_hand_36 : decode cX11_hand 36 = .ok (.iload_n 1, 1) := by decide +kernel
theorem dX11_hand_37 : decode cX11_hand 37 = .ok (.iconst 2, 1) := by decide +kernel
theorem dX11_hand_38 : decode cX11_hand 38 = .ok (.invokevirtual 87, 3) := by decide +kernel
theorem dX11_hand_41 : decode cX11_hand 41 = .ok (.ireturn, 1) := by decide +kernel
theorem dX11_slantBits_0 : decode cX11_slantBits 0 = .ok (.iconst 0, 1) := by decide +kernel
theorem dX11_slantBits_1 : decode cX11_slantBits 1 = .ok (.istore_n 1, 1) := by decide +kernel
theorem dX11_slantBits_2 : decode cX11_slantBits 2 = .ok (.iconst 0, 1) := by decide +kernel
theorem dX11_slantBits_3 : decode cX11_slantBits 3 = .ok (.istore_n 2, 1) := by decide +kernel
theorem dX11_slantBits_4 : decode cX11_slantBits 4 = .ok (.iload_n 2, 1) := by decide +kernel
theorem dX11_slantBits_5 : decode cX11_slantBits 5 = .ok (.aload_n 0, 1) := by decide +kernel
theorem dX11_slantBits_6 : decode cX11_slantBits 6 = .ok (.invokevirtual 67, 3) := by decide +kernel
theorem dX11_slantBits_9 : decode cX11_slantBits 9 = .ok (.if_icmp .ge 20, 3) := by decide +kernel
theorem dX11_slantBits_12 : decode cX11_slantBits 12 = .ok (.iload_n 1, 1) := by decide +kernel
theorem dX11_slantBits_13 : decode cX11_slantBits 13 = .ok (.aload_n 0, 1) := by decide +kernel
theorem dX11_slantBits_14 : decode cX11_slantBits 14 = .ok (.iload_n 2, 1) := by decide +kernel
theorem dX11_slantBits_15 : decode cX11_slantBits 15 = .ok (.iconst 2, 1) := by decide +kernel
theorem dX11_slantBits_16 : decode cX11_slantBits 16 = .ok (.invokevirtual 87, 3) := by decide +kernel
theorem dX11_slantBits_19 : decode cX11_slantBits 19 = .ok (.iload_n 2, 1) := by decide +kernel
theorem dX11_slantBits_20 : decode cX11_slantBits 20 = .ok (.ishl, 1) := by decide +kernel
theorem dX11_slantBits_21 : decode cX11_slantBits 21 = .ok (.ior, 1) := by decide +kernel
theorem dX11_slantBits_22 : decode cX11_slantBits 22 = .ok (.istore_n 1, 1) := by decide +kernel
theorem dX11_slantBits_23 : decode cX11_slantBits 23 = .ok (.iinc 2 1, 3) := by decide +kernel
theorem dX11_slantBits_26 : decode cX11_slantBits 26 = .ok (.goto (-22), 3) := by decide +kernel
theorem dX11_slantBits_29 : decode cX11_slantBits 29 = .ok (.iload_n 1, 1) := by decide +kernel
theorem dX11_slantBits_30 : decode cX11_slantBits 30 = .ok (.ireturn, 1) := by decide +kernel
theorem dX11_slants_0 : decode cX11_slants 0 = .ok (.aload_n 0, 1) := by decide +kernel
theorem dX11_slants_1 : decode cX11_slants 1 = .ok (.invokevirtual 132, 3) := by decide +kernel
theorem dX11_slants_4 : decode cX11_slants 4 = .ok (.ireturn, 1) := by decide +kernel
theorem dX11_enters_0 : decode cX11_enters 0 = .ok (.aload_n 0, 1) := by decide +kernel
theorem dX11_enters_1 : decode cX11_enters 1 = .ok (.getfield 7, 3) := by decide +kernel
theorem dX11_enters_4 : decode cX11_enters 4 = .ok (.iconst 1, 1) := by decide +kernel
theorem dX11_enters_5 : decode cX11_enters 5 = .ok (.iaload, 1) := by decide +kernel
theorem dX11_enters_6 : decode cX11_enters 6 = .ok (.istore_n 2, 1) := by decide +kernel
theorem dX11_enters_7 : decode cX11_enters 7 = .ok (.aload_n 0, 1) := by decide +kernel
theorem dX11_enters_8 : decode cX11_enters 8 = .ok (.getfield 7, 3) := by decide +kernel
theorem dX11_enters_11 : decode cX11_enters 11 = .ok (.iconst 0, 1) := by decide +kernel
theorem dX11_enters_12 : decode cX11_enters 12 = .ok (.iaload, 1) := by decide +kernel
theorem dX11_enters_13 : decode cX11_enters 13 = .ok (.istore_n 3, 1) := by decide +kernel
theorem dX11_enters_14 : decode cX11_enters 14 = .ok (.aload_n 0, 1) := by decide +kernel
theorem dX11_enters_15 : decode cX11_enters 15 = .ok (.iconst 0, 1) := by decide +kernel
theorem dX11_enters_16 : decode cX11_enters 16 = .ok (.putfield 135, 3) := by decide +kernel
theorem dX11_enters_19 : decode cX11_enters 19 = .ok (.aload_n 0, 1) := by decide +kernel
theorem dX11_enters_20 : decode cX11_enters 20 = .ok (.iconst 0, 1) := by decide +kernel
theorem dX11_enters_21 : decode cX11_enters 21 = .ok (.putfield 138, 3) := by decide +kernel
theorem dX11_enters_24 : decode cX11_enters 24 = .ok (.iload_n 1, 1) := by decide +kernel
theorem dX11_enters_25 : decode cX11_enters 25 = .ok (.iload_n 2, 1) := by decide +kernel
theorem dX11_enters_26 : decode cX11_enters 26 = .ok (.if_icmp .ge 21, 3) := by decide +kernel
theorem dX11_enters_29 : decode cX11_enters 29 = .ok (.aload_n 0, 1) := by decide +kernel
theorem dX11_enters_30 : decode cX11_enters 30 = .ok (.iconst 0, 1) := by decide +kernel
theorem dX11_enters_31 : decode cX11_enters 31 = .ok (.putfield 141, 3) := by decide +kernel
theorem dX11_enters_34 : decode cX11_enters 34 = .ok (.aload_n 0, 1) := by decide +kernel
theorem dX11_enters_35 : decode cX11_enters 35 = .ok (.iload_n 1, 1) := by decide +kernel
theorem dX11_enters_36 : decode cX11_enters 36 = .ok (.putfield 144, 3) := by decide +kernel
theorem dX11_enters_39 : decode cX11_enters 39 = .ok (.aload_n 0, 1) := by decide +kernel
theorem dX11_enters_40 : decode cX11_enters 40 = .ok (.iconst 2, 1) := by decide +kernel
theorem dX11_enters_41 : decode cX11_enters 41 = .ok (.putfield 147, 3) := by decide +kernel
theorem dX11_enters_44 : decode cX11_enters 44 = .ok (.goto 86, 3) := by decide +kernel
theorem dX11_enters_47 : decode cX11_enters 47 = .ok (.iload_n 1, 1) := by decide +kernel
theorem dX11_enters_48 : decode cX11_enters 48 = .ok (.iload_n 2, 1) := by decide +kernel
theorem dX11_enters_49 : decode cX11_enters 49 = .ok (.iload_n 3, 1) := by decide +kernel
theorem dX11_enters_50 : decode cX11_enters 50 = .ok (.iadd, 1) := by decide +kernel
theorem dX11_enters_51 : decode cX11_enters 51 = .ok (.if_icmp .ge 25, 3) := by decide +kernel
theorem dX11_enters_54 : decode cX11_enters 54 = .ok (.aload_n 0, 1) := by decide +kernel
theorem dX11_enters_55 : decode cX11_enters 55 = .ok (.iload_n 1, 1) := by decide +kernel
theorem dX11_enters_56 : decode cX11_enters 56 = .ok (.iload_n 2, 1) := by decide +kernel
theorem dX11_enters_57 : decode cX11_enters 57 = .ok (.isub, 1) := by decide +kernel
theorem dX11_enters_58 : decode cX11_enters 58 = .ok (.putfield 141, 3) := by decide +kernel
theorem dX11_enters_61 : decode cX11_enters 61 = .ok (.aload_n 0, 1) := by decide +kernel
theorem dX11_enters_62 : decode cX11_enters 62 = .ok (.iload_n 2, 1) := by decide +kernel
theorem dX11_enters_63 : decode cX11_enters 63 = .ok (.iconst 1, 1) := by decide +kernel
theorem dX11_enters_64 : decode cX11_enters 64 = .ok (.isub, 1) := by decide +kernel
theorem dX11_enters_65 : decode cX11_enters 65 = .ok (.putfield 144, 3) := by decide +kernel
theorem dX11_enters_68 : decode cX11_enters 68 = .ok (.aload_n 0, 1) := by decide +kernel
theorem dX11_enters_69 : decode cX11_enters 69 = .ok (.iconst 3, 1) := by decide +kernel
theorem dX11_enters_70 : decode cX11_enters 70 = .ok (.putfield 147, 3) := by decide +kernel
theorem dX11_enters_73 : decode cX11_enters 73 = .ok (.goto 57, 3) := by decide +kernel
theorem dX11_enters_76 : decode cX11_enters 76 = .ok (.iload_n 1, 1) := by decide +kernel
theorem dX11_enters_77 : decode cX11_enters 77 = .ok (.iconst 2, 1) := by decide +kernel
theorem dX11_enters_78 : decode cX11_enters 78 = .ok (.iload_n 2, 1) := by decide +kernel
theorem dX11_enters_79 : decode cX11_enters 79 = .ok (.imul, 1) := by decide +kernel
theorem dX11_enters_80 : decode cX11_enters 80 = .ok (.iload_n 3, 1) := by decide +kernel
theorem dX11_enters_81 : decode cX11_enters 81 = .ok (.iadd, 1) := by decide +kernel
theorem dX11_enters_82 : decode cX11_enters 82 = .ok (.if_icmp .ge 27, 3) := by decide +kernel
theorem dX11_enters_85 : decode cX11_enters 85 = .ok (.aload_n 0, 1) := by decide +kernel
theorem dX11_enters_86 : decode cX11_enters 86 = .ok (.iload_n 3, 1) := by decide +kernel
theorem dX11_enters_87 : decode cX11_enters 87 = .ok (.iconst 1, 1) := by decide +kernel
theorem dX11_enters_88 : decode cX11_enters 88 = .ok (.isub, 1) := by decide +kernel
theorem dX11_enters_89 : decode cX11_enters 89 = .ok (.putfield 141, 3) := by decide +kernel
theorem dX11_enters_92 : decode cX11_enters 92 = .ok (.aload_n 0, 1) := by decide +kernel
theorem dX11_enters_93 : decode cX11_enters 93 = .ok (.iload_n 1, 1) := by decide +kernel
theorem dX11_enters_94 : decode cX11_enters 94 = .ok (.iload_n 2, 1) := by decide +kernel
theorem dX11_enters_95 : decode cX11_enters 95 = .ok (.isub, 1) := by decide +kernel
theorem dX11_enters_96 : decode cX11_enters 96 = .ok (.iload_n 3, 1) := by decide +kernel
theorem dX11_enters_97 : decode cX11_enters 97 = .ok (.isub, 1) := by decide +kernel
theorem dX11_enters_98 : decode cX11_enters 98 = .ok (.putfield 144, 3) := by decide +kernel
theorem dX11_enters_101 : decode cX11_enters 101 = .ok (.aload_n 0, 1) := by decide +kernel
theorem dX11_enters_102 : decode cX11_enters 102 = .ok (.iconst 0, 1) := by decide +kernel
theorem dX11_enters_103 : decode cX11_enters 103 = .ok (.putfield 147, 3) := by decide +kernel
theorem dX11_enters_106 : decode cX11_enters 106 = .ok (.goto 24, 3) := by decide +kernel
theorem dX11_enters_109 : decode cX11_enters 109 = .ok (.aload_n 0, 1) := by decide +kernel
theorem dX11_enters_110 : decode cX11_enters 110 = .ok (.iload_n 1, 1) := by decide +kernel
theorem dX11_enters_111 : decode cX11_enters 111 = .ok (.iconst 2, 1) := by decide +kernel
theorem dX11_enters_112 : decode cX11_enters 112 = .ok (.iload_n 2, 1) := by decide +kernel
theorem dX11_enters_113 : decode cX11_enters 113 = .ok (.imul, 1) := by decide +kernel
theorem dX11_enters_114 : decode cX11_enters 114 = .ok (.isub, 1) := by decide +kernel
theorem dX11_enters_115 : decode cX11_enters 115 = .ok (.iload_n 3, 1) := by decide +kernel
theorem dX11_enters_116 : decode cX11_enters 116 = .ok (.isub, 1) := by decide +kernel
theorem dX11_enters_117 : decode cX11_enters 117 = .ok (.putfield 141, 3) := by decide +kernel
theorem dX11_enters_120 : decode cX11_enters 120 = .ok (.aload_n 0, 1) := by decide +kernel
theorem dX11_enters_121 : decode cX11_enters 121 = .ok (.iconst 0, 1) := by decide +kernel
theorem dX11_enters_122 : decode cX11_enters 122 = .ok (.putfield 144, 3) := by decide +kernel
theorem dX11_enters_125 : decode cX11_enters 125 = .ok (.aload_n 0, 1) := by decide +kernel
theorem dX11_enters_126 : decode cX11_enters 126 = .ok (.iconst 1, 1) := by decide +kernel
theorem dX11_enters_127 : decode cX11_enters 127 = .ok (.putfield 147, 3) := by decide +kernel
theorem dX11_enters_130 : decode cX11_enters 130 = .ok (.return_, 1) := by decide +kernel
theorem dX11_goesOn_0 : decode cX11_goesOn 0 = .ok (.aload_n 0, 1) := by decide +kernel
theorem dX11_goesOn_1 : decode cX11_goesOn 1 = .ok (.dup, 1) := by decide +kernel
theorem dX11_goesOn_2 : decode cX11_goesOn 2 = .ok (.getfield 141, 3) := by decide +kernel
theorem dX11_goesOn_5 : decode cX11_goesOn 5 = .ok (.aload_n 0, 1) := by decide +kernel
theorem dX11_goesOn_6 : decode cX11_goesOn 6 = .ok (.getfield 147, 3) := by decide +kernel
theorem dX11_goesOn_9 : decode cX11_goesOn 9 = .ok (.ifCond .ne 7, 3) := by decide +kernel
theorem dX11_goesOn_12 : decode cX11_goesOn 12 = .ok (.iconst (-1), 1) := by decide +kernel
theorem dX11_goesOn_13 : decode cX11_goesOn 13 = .ok (.goto 16, 3) := by decide +kernel
theorem dX11_goesOn_16 : decode cX11_goesOn 16 = .ok (.aload_n 0, 1) := by decide +kernel
theorem dX11_goesOn_17 : decode cX11_goesOn 17 = .ok (.getfield 147, 3) := by decide +kernel
theorem dX11_goesOn_20 : decode cX11_goesOn 20 = .ok (.iconst 2, 1) := by decide +kernel
theorem dX11_goesOn_21 : decode cX11_goesOn 21 = .ok (.if_icmp .ne 7, 3) := by decide +kernel
theorem dX11_goesOn_24 : decode cX11_goesOn 24 = .ok (.iconst 1, 1) := by decide +kernel
theorem dX11_goesOn_25 : decode cX11_goesOn 25 = .ok (.goto 4, 3) := by decide +kernel
theorem dX11_goesOn_28 : decode cX11_goesOn 28 = .ok (.iconst 0, 1) := by decide +kernel
theorem dX11_goesOn_29 : decode cX11_goesOn 29 = .ok (.iadd, 1) := by decide +kernel
theorem dX11_goesOn_30 : decode cX11_goesOn 30 = .ok (.putfield 141, 3) := by decide +kernel
theorem dX11_goesOn_33 : decode cX11_goesOn 33 = .ok (.aload_n 0, 1) := by decide +kernel
theorem dX11_goesOn_34 : decode cX11_goesOn 34 = .ok (.dup, 1) := by decide +kernel
theorem dX11_goesOn_35 : decode cX11_goesOn 35 = .ok (.getfield 144, 3) := by decide +kernel
theorem dX11_goesOn_38 : decode cX11_goesOn 38 = .ok (.aload_n 0, 1) := by decide +kernel
theorem dX11_goesOn_39 : decode cX11_goesOn 39 = .ok (.getfield 147, 3) := by decide +kernel
theorem dX11_goesOn_42 : decode cX11_goesOn 42 = .ok (.iconst 1, 1) := by decide +kernel
theorem dX11_goesOn_43 : decode cX11_goesOn 43 = .ok (.if_icmp .ne 7, 3) := by decide +kernel
theorem dX11_goesOn_46 : decode cX11_goesOn 46 = .ok (.iconst 1, 1) := by decide +kernel
theorem dX11_goesOn_47 : decode cX11_goesOn 47 = .ok (.goto 16, 3) := by decide +kernel
theorem dX11_goesOn_50 : decode cX11_goesOn 50 = .ok (.aload_n 0, 1) := by decide +kernel
theorem dX11_goesOn_51 : decode cX11_goesOn 51 = .ok (.getfield 147, 3) := by decide +kernel
theorem dX11_goesOn_54 : decode cX11_goesOn 54 = .ok (.iconst 3, 1) := by decide +kernel
theorem dX11_goesOn_55 : decode cX11_goesOn 55 = .ok (.if_icmp .ne 7, 3) := by decide +kernel
theorem dX11_goesOn_58 : decode cX11_goesOn 58 = .ok (.iconst (-1), 1) := by decide +kernel
theorem dX11_goesOn_59 : decode cX11_goesOn 59 = .ok (.goto 4, 3) := by decide +kernel
theorem dX11_goesOn_62 : decode cX11_goesOn 62 = .ok (.iconst 0, 1) := by decide +kernel
theorem dX11_goesOn_63 : decode cX11_goesOn 63 = .ok (.iadd, 1) := by decide +kernel
theorem dX11_goesOn_64 : decode cX11_goesOn 64 = .ok (.putfield 144, 3) := by decide +kernel
theorem dX11_goesOn_67 : decode cX11_goesOn 67 = .ok (.return_, 1) := by decide +kernel
theorem dX11_isOut_0 : decode cX11_isOut 0 = .ok (.aload_n 0, 1) := by decide +kernel
theorem dX11_isOut_1 : decode cX11_isOut 1 = .ok (.getfield 141, 3) := by decide +kernel
theorem dX11_isOut_4 : decode cX11_isOut 4 = .ok (.iconst 0, 1) := by decide +kernel
theorem dX11_isOut_5 : decode cX11_isOut 5 = .ok (.aload_n 0, 1) := by decide +kernel
theorem dX11_isOut_6 : decode cX11_isOut 6 = .ok (.getfield 7, 3) := by decide +kernel
theorem dX11_isOut_9 : decode cX11_isOut 9 = .ok (.iconst 0, 1) := by decide +kernel
theorem dX11_isOut_10 : decode cX11_isOut 10 = .ok (.iaload, 1) := by decide +kernel
theorem dX11_isOut_11 : decode cX11_isOut 11 = .ok (.iconst 1, 1) := by decide +kernel
theorem dX11_isOut_12 : decode cX11_isOut 12 = .ok (.isub, 1) := by decide +kernel
theorem dX11_isOut_13 : decode cX11_isOut 13 = .ok (.invokestatic 71, 3) := by decide +kernel
theorem dX11_isOut_16 : decode cX11_isOut 16 = .ok (.ifCond .eq 22, 3) := by decide +kernel
theorem dX11_isOut_19 : decode cX11_isOut 19 = .ok (.aload_n 0, 1) := by decide +kernel
theorem dX11_isOut_20 : decode cX11_isOut 20 = .ok (.getfield 144, 3) := by decide +kernel
theorem dX11_isOut_23 : decode cX11_isOut 23 = .ok (.iconst 0, 1) := by decide +kernel
theorem dX11_isOut_24 : decode cX11_isOut 24 = .ok (.aload_n 0, 1) := by decide +kernel
theorem dX11_isOut_25 : decode cX11_isOut 25 = .ok (.getfield 7, 3) := by decide +kernel
theorem dX11_isOut_28 : decode cX11_isOut 28 = .ok (.iconst 1, 1) := by decide +kernel
theorem dX11_isOut_29 : decode cX11_isOut 29 = .ok (.iaload, 1) := by decide +kernel
theorem dX11_isOut_30 : decode cX11_isOut 30 = .ok (.iconst 1, 1) := by decide +kernel
theorem dX11_isOut_31 : decode cX11_isOut 31 = .ok (.isub, 1) := by decide +kernel
theorem dX11_isOut_32 : decode cX11_isOut 32 = .ok (.invokestatic 71, 3) := by decide +kernel
theorem dX11_isOut_35 : decode cX11_isOut 35 = .ok (.ifCond .ne 7, 3) := by decide +kernel
theorem dX11_isOut_38 : decode cX11_isOut 38 = .ok (.iconst 1, 1) := by decide +kernel
theorem dX11_isOut_39 : decode cX11_isOut 39 = .ok (.goto 4, 3) := by decide +kernel
theorem dX11_isOut_42 : decode cX11_isOut 42 = .ok (.iconst 0, 1) := by decide +kernel
theorem dX11_isOut_43 : decode cX11_isOut 43 = .ok (.ireturn, 1) := by decide +kernel
theorem dX11_windowThere_0 : decode cX11_windowThere 0 = .ok (.aload_n 0, 1) := by decide +kernel
theorem dX11_windowThere_1 : decode cX11_windowThere 1 = .ok (.getfield 7, 3) := by decide +kernel
theorem dX11_windowThere_4 : decode cX11_windowThere 4 = .ok (.iconst 1, 1) := by decide +kernel
theorem dX11_windowThere_5 : decode cX11_windowThere 5 = .ok (.iaload, 1) := by decide +kernel
theorem dX11_windowThere_6 : decode cX11_windowThere 6 = .ok (.istore_n 1, 1) := by decide +kernel
theorem dX11_windowThere_7 : decode cX11_windowThere 7 = .ok (.aload_n 0, 1) := by decide +kernel
theorem dX11_windowThere_8 : decode cX11_windowThere 8 = .ok (.getfield 7, 3) := by decide +kernel
theorem dX11_windowThere_11 : decode cX11_windowThere 11 = .ok (.iconst 0, 1) := by decide +kernel
theorem dX11_windowThere_12 : decode cX11_windowThere 12 = .ok (.iaload, 1) := by decide +kernel
theorem dX11_windowThere_13 : decode cX11_windowThere 13 = .ok (.istore_n 2, 1) := by decide +kernel
theorem dX11_windowThere_14 : decode cX11_windowThere 14 = .ok (.aload_n 0, 1) := by decide +kernel
theorem dX11_windowThere_15 : decode cX11_windowThere 15 = .ok (.getfield 147, 3) := by decide +kernel
theorem dX11_windowThere_18 : decode cX11_windowThere 18 = .ok (.ifCond .ne 10, 3) := by decide +kernel
theorem dX11_windowThere_21 : decode cX11_windowThere 21 = .ok (.aload_n 0, 1) := by decide +kernel
theorem dX11_windowThere_22 : decode cX11_windowThere 22 = .ok (.getfield 144, 3) := by decide +kernel
theorem dX11_windowThere_25 : decode cX11_windowThere 25 = .ok (.goto 49, 3) := by decide +kernel
theorem dX11_windowThere_28 : decode cX11_windowThere 28 = .ok (.aload_n 0, 1) := by decide +kernel
theorem dX11_windowThere_29 : decode cX11_windowThere 29 = .ok (.getfield 147, 3) := by decide +kernel
theorem dX11_windowThere_32 : decode cX11_windowThere 32 = .ok (.iconst 1, 1) := by decide +kernel
theorem dX11_windowThere_33 : decode cX11_windowThere 33 = .ok (.if_icmp .ne 12, 3) := by decide +kernel
theorem dX11_windowThere_36 : decode cX11_windowThere 36 = .ok (.iload_n 1, 1) := by decide +kernel
theorem dX11_windowThere_37 : decode cX11_windowThere 37 = .ok (.aload_n 0, 1) := by decide +kernel
theorem dX11_windowThere_38 : decode cX11_windowThere 38 = .ok (.getfield 141, 3) := by decide +kernel
theorem dX11_windowThere_41 : decode cX11_windowThere 41 = .ok (.iadd, 1) := by decide +kernel
theorem dX11_windowThere_42 : decode cX11_windowThere 42 = .ok (.goto 32, 3) := by decide +kernel
theorem dX11_windowThere_45 : decode cX11_windowThere 45 = .ok (.aload_n 0, 1) := by decide +kernel
theorem dX11_windowThere_46 : decode cX11_windowThere 46 = .ok (.getfield 147, 3) := by decide +kernel
theorem dX11_windowThere_49 : decode cX11_windowThere 49 = .ok (.iconst 2, 1) := by decide +kernel
theorem dX11_windowThere_50 : decode cX11_windowThere 50 = .ok (.if_icmp .ne 14, 3) := by decide +kernel
theorem dX11_windowThere_53 : decode cX11_windowThere 53 = .ok (.iload_n 1, 1) := by decide +kernel
theorem dX11_windowThere_54 : decode cX11_windowThere 54 = .ok (.iload_n 2, 1) := by decide +kernel
theorem dX11_windowThere_55 : decode cX11_windowThere 55 = .ok (.iadd, 1) := by decide +kernel
theorem dX11_windowThere_56 : decode cX11_windowThere 56 = .ok (.aload_n 0, 1) := by decide +kernel
theorem dX11_windowThere_57 : decode cX11_windowThere 57 = .ok (.getfield 144, 3) := by decide +kernel
theorem dX11_windowThere_60 : decode cX11_windowThere 60 = .ok (.iadd, 1) := by decide +kernel
theorem dX11_windowThere_61 : decode cX11_windowThere 61 = .ok (.goto 13, 3) := by decide +kernel
theorem dX11_windowThere_64 : decode cX11_windowThere 64 = .ok (.iconst 2, 1) := by decide +kernel
theorem dX11_windowThere_65 : decode cX11_windowThere 65 = .ok (.iload_n 1, 1) := by decide +kernel
theorem dX11_windowThere_66 : decode cX11_windowThere 66 = .ok (.imul, 1) := by decide +kernel
theorem dX11_windowThere_67 : decode cX11_windowThere 67 = .ok (.iload_n 2, 1) := by decide +kernel
theorem dX11_windowThere_68 : decode cX11_windowThere 68 = .ok (.iadd, 1) := by decide +kernel
theorem dX11_windowThere_69 : decode cX11_windowThere 69 = .ok (.aload_n 0, 1) := by decide +kernel
theorem dX11_windowThere_70 : decode cX11_windowThere 70 = .ok (.getfield 141, 3) := by decide +kernel
theorem dX11_windowThere_73 : decode cX11_windowThere 73 = .ok (.iadd, 1) := by decide +kernel
theorem dX11_windowThere_74 : decode cX11_windowThere 74 = .ok (.ireturn, 1) := by decide +kernel
theorem dX11_thrown_0 : decode cX11_thrown 0 = .ok (.iload_n 1, 1) := by decide +kernel
theorem dX11_thrown_1 : decode cX11_thrown 1 = .ok (.ifCond .ne 9, 3) := by decide +kernel
theorem dX11_thrown_4 : decode cX11_thrown 4 = .ok (.iload_n 0, 1) := by decide +kernel
theorem dX11_thrown_5 : decode cX11_thrown 5 = .ok (.iconst 1, 1) := by decide +kernel
theorem dX11_thrown_6 : decode cX11_thrown 6 = .ok (.ixor, 1) := by decide +kernel
theorem dX11_thrown_7 : decode cX11_thrown 7 = .ok (.goto 6, 3) := by decide +kernel
theorem dX11_thrown_10 : decode cX11_thrown 10 = .ok (.iconst 3, 1) := by decide +kernel
theorem dX11_thrown_11 : decode cX11_thrown 11 = .ok (.iload_n 0, 1) := by decide +kernel
theorem dX11_thrown_12 : decode cX11_thrown 12 = .ok (.isub, 1) := by decide +kernel
theorem dX11_thrown_13 : decode cX11_thrown 13 = .ok (.ireturn, 1) := by decide +kernel
theorem dX11_turns_0 : decode cX11_turns 0 = .ok (.aload_n 0, 1) := by decide +kernel
theorem dX11_turns_1 : decode cX11_turns 1 = .ok (.iload_n 1, 1) := by decide +kernel
theorem dX11_turns_2 : decode cX11_turns 2 = .ok (.iconst 0, 1) := by decide +kernel
theorem dX11_turns_3 : decode cX11_turns 3 = .ok (.invokevirtual 87, 3) := by decide +kernel
theorem dX11_turns_6 : decode cX11_turns 6 = .ok (.istore_n 2, 1) := by decide +kernel
theorem dX11_turns_7 : decode cX11_turns 7 = .ok (.iload_n 2, 1) := by decide +kernel
theorem dX11_turns_8 : decode cX11_turns 8 = .ok (.iconst 5, 1) := by decide +kernel
theorem dX11_turns_9 : decode cX11_turns 9 = .ok (.if_icmp .ne 51, 3) := by decide +kernel
theorem dX11_turns_12 : decode cX11_turns 12 = .ok (.aload_n 0, 1) := by decide +kernel
theorem dX11_turns_13 : decode cX11_turns 13 = .ok (.iload_n 1, 1) := by decide +kernel
theorem dX11_turns_14 : decode cX11_turns 14 = .ok (.iconst 3, 1) := by decide +kernel
theorem dX11_turns_15 : decode cX11_turns 15 = .ok (.aload_n 0, 1) := by decide +kernel
theorem dX11_turns_16 : decode cX11_turns 16 = .ok (.iload_n 1, 1) := by decide +kernel
theorem dX11_turns_17 : decode cX11_turns 17 = .ok (.iconst 3, 1) := by decide +kernel
theorem dX11_turns_18 : decode cX11_turns 18 = .ok (.invokevirtual 87, 3) := by decide +kernel
theorem dX11_turns_21 : decode cX11_turns 21 = .ok (.iconst 1, 1) := by decide +kernel
theorem dX11_turns_22 : decode cX11_turns 22 = .ok (.iadd, 1) := by decide +kernel
theorem dX11_turns_23 : decode cX11_turns 23 = .ok (.invokevirtual 91, 3) := by decide +kernel
theorem dX11_turns_26 : decode cX11_turns 26 = .ok (.aload_n 0, 1) := by decide +kernel
theorem dX11_turns_27 : decode cX11_turns 27 = .ok (.iload_n 1, 1) := by decide +kernel
theorem dX11_turns_28 : decode cX11_turns 28 = .ok (.iconst 3, 1) := by decide +kernel
theorem dX11_turns_29 : decode cX11_turns 29 = .ok (.invokevirtual 87, 3) := by decide +kernel
theorem dX11_turns_32 : decode cX11_turns 32 = .ok (.iconst 2, 1) := by decide +kernel
theorem dX11_turns_33 : decode cX11_turns 33 = .ok (.aload_n 0, 1) := by decide +kernel
theorem dX11_turns_34 : decode cX11_turns 34 = .ok (.iload_n 1, 1) := by decide +kernel
theorem dX11_turns_35 : decode cX11_turns 35 = .ok (.iconst 1, 1) := by decide +kernel
theorem dX11_turns_36 : decode cX11_turns 36 = .ok (.invokevirtual 87, 3) := by decide +kernel
theorem dX11_turns_39 : decode cX11_turns 39 = .ok (.iconst 3, 1) := by decide +kernel
theorem dX11_turns_40 : decode cX11_turns 40 = .ok (.irem, 1) := by decide +kernel
theorem dX11_turns_41 : decode cX11_turns 41 = .ok (.iadd, 1) := by decide +kernel
theorem dX11_turns_42 : decode cX11_turns 42 = .ok (.if_icmp .ne 28, 3) := by decide +kernel
theorem dX11_turns_45 : decode cX11_turns 45 = .ok (.aload_n 0, 1) := by decide +kernel
theorem dX11_turns_46 : decode cX11_turns 46 = .ok (.iload_n 1, 1) := by decide +kernel
theorem dX11_turns_47 : decode cX11_turns 47 = .ok (.iconst 3, 1) := by decide +kernel
theorem dX11_turns_48 : decode cX11_turns 48 = .ok (.iconst 0, 1) := by decide +kernel
theorem dX11_turns_49 : decode cX11_turns 49 = .ok (.invokevirtual 91, 3) := by decide +kernel
theorem dX11_turns_52 : decode cX11_turns 52 = .ok (.aload_n 0, 1) := by decide +kernel
theorem dX11_turns_53 : decode cX11_turns 53 = .ok (.iload_n 1, 1) := by decide +kernel
theorem dX11_turns_54 : decode cX11_turns 54 = .ok (.invokevirtual 125, 3) := by decide +kernel
theorem dX11_turns_57 : decode cX11_turns 57 = .ok (.goto 13, 3) := by decide +kernel
theorem dX11_turns_60 : decode cX11_turns 60 = .ok (.iload_n 2, 1) := by decide +kernel
theorem dX11_turns_61 : decode cX11_turns 61 = .ok (.iconst 1, 1) := by decide +kernel
theorem dX11_turns_62 : decode cX11_turns 62 = .ok (.if_icmp .ne 8, 3) := by decide +kernel
theorem dX11_turns_65 : decode cX11_turns 65 = .ok (.aload_n 0, 1) := by decide +kernel
theorem dX11_turns_66 : decode cX11_turns 66 = .ok (.iload_n 1, 1) := by decide +kernel
theorem dX11_turns_67 : decode cX11_turns 67 = .ok (.invokevirtual 125, 3) := by decide +kernel
theorem dX11_turns_70 : decode cX11_turns 70 = .ok (.return_, 1) := by decide +kernel
theorem dX11_comesInto_0 : decode cX11_comesInto 0 = .ok (.aload_n 0, 1) := by decide +kernel
theorem dX11_comesInto_1 : decode cX11_comesInto 1 = .ok (.dup, 1) := by decide +kernel
theorem dX11_comesInto_2 : decode cX11_comesInto 2 = .ok (.getfield 135, 3) := by decide +kernel
theorem dX11_comesInto_5 : decode cX11_comesInto 5 = .ok (.iconst 1, 1) := by decide +kernel
theorem dX11_comesInto_6 : decode cX11_comesInto 6 = .ok (.iadd, 1) := by decide +kernel
theorem dX11_comesInto_7 : decode cX11_comesInto 7 = .ok (.putfield 135, 3) := by decide +kernel
theorem dX11_comesInto_10 : decode cX11_comesInto 10 = .ok (.aload_n 0, 1) := by decide +kernel
theorem dX11_comesInto_11 : decode cX11_comesInto 11 = .ok (.iload_n 1, 1) := by decide +kernel
theorem dX11_comesInto_12 : decode cX11_comesInto 12 = .ok (.iconst 4, 1) := by decide +kernel
theorem dX11_comesInto_13 : decode cX11_comesInto 13 = .ok (.aload_n 0, 1) := by decide +kernel
theorem dX11_comesInto_14 : decode cX11_comesInto 14 = .ok (.iload_n 1, 1) := by decide +kernel
theorem dX11_comesInto_15 : decode cX11_comesInto 15 = .ok (.iconst 4, 1) := by decide +kernel
theorem dX11_comesInto_16 : decode cX11_comesInto 16 = .ok (.invokevirtual 87, 3) := by decide +kernel
theorem dX11_comesInto_19 : decode cX11_comesInto 19 = .ok (.sipush 9999, 3) := by decide +kernel
theorem dX11_comesInto_22 : decode cX11_comesInto 22 = .ok (.if_icmp .ge 14, 3) := by decide +kernel
theorem dX11_comesInto_25 : decode cX11_comesInto 25 = .ok (.aload_n 0, 1) := by decide +kernel
theorem dX11_comesInto_26 : decode cX11_comesInto 26 = .ok (.iload_n 1, 1) := by decide +kernel
theorem dX11_comesInto_27 : decode cX11_comesInto 27 = .ok (.iconst 4, 1) := by decide +kernel
theorem dX11_comesInto_28 : decode cX11_comesInto 28 = .ok (.invokevirtual 87, 3) := by decide +kernel
theorem dX11_comesInto_31 : decode cX11_comesInto 31 = .ok (.iconst 1, 1) := by decide +kernel
theorem dX11_comesInto_32 : decode cX11_comesInto 32 = .ok (.iadd, 1) := by decide +kernel
theorem dX11_comesInto_33 : decode cX11_comesInto 33 = .ok (.goto 6, 3) := by decide +kernel
theorem dX11_comesInto_36 : decode cX11_comesInto 36 = .ok (.sipush 9999, 3) := by decide +kernel
theorem dX11_comesInto_39 : decode cX11_comesInto 39 = .ok (.invokevirtual 91, 3) := by decide +kernel
theorem dX11_comesInto_42 : decode cX11_comesInto 42 = .ok (.aload_n 0, 1) := by decide +kernel
theorem dX11_comesInto_43 : decode cX11_comesInto 43 = .ok (.iload_n 1, 1) := by decide +kernel
theorem dX11_comesInto_44 : decode cX11_comesInto 44 = .ok (.invokevirtual 105, 3) := by decide +kernel
theorem dX11_comesInto_47 : decode cX11_comesInto 47 = .ok (.ifCond .eq 35, 3) := by decide +kernel
theorem dX11_comesInto_50 : decode cX11_comesInto 50 = .ok (.aload_n 0, 1) := by decide +kernel
theorem dX11_comesInto_51 : decode cX11_comesInto 51 = .ok (.aload_n 0, 1) := by decide +kernel
theorem dX11_comesInto_52 : decode cX11_comesInto 52 = .ok (.getfield 147, 3) := by decide +kernel
theorem dX11_comesInto_55 : decode cX11_comesInto 55 = .ok (.aload_n 0, 1) := by decide +kernel
theorem dX11_comesInto_56 : decode cX11_comesInto 56 = .ok (.iload_n 1, 1) := by decide +kernel
theorem dX11_comesInto_57 : decode cX11_comesInto 57 = .ok (.iconst 2, 1) := by decide +kernel
theorem dX11_comesInto_58 : decode cX11_comesInto 58 = .ok (.invokevirtual 87, 3) := by decide +kernel
theorem dX11_comesInto_61 : decode cX11_comesInto 61 = .ok (.invokestatic 150, 3) := by decide +kernel
theorem dX11_comesInto_64 : decode cX11_comesInto 64 = .ok (.putfield 147, 3) := by decide +kernel
theorem dX11_comesInto_67 : decode cX11_comesInto 67 = .ok (.aload_n 0, 1) := by decide +kernel
theorem dX11_comesInto_68 : decode cX11_comesInto 68 = .ok (.dup, 1) := by decide +kernel
theorem dX11_comesInto_69 : decode cX11_comesInto 69 = .ok (.getfield 138, 3) := by decide +kernel
theorem dX11_comesInto_72 : decode cX11_comesInto 72 = .ok (.iconst 1, 1) := by decide +kernel
theorem dX11_comesInto_73 : decode cX11_comesInto 73 = .ok (.iadd, 1) := by decide +kernel
theorem dX11_comesInto_74 : decode cX11_comesInto 74 = .ok (.putfield 138, 3) := by decide +kernel
theorem dX11_comesInto_77 : decode cX11_comesInto 77 = .ok (.aload_n 0, 1) := by decide +kernel
theorem dX11_comesInto_78 : decode cX11_comesInto 78 = .ok (.iload_n 1, 1) := by decide +kernel
theorem dX11_comesInto_79 : decode cX11_comesInto 79 = .ok (.invokevirtual 153, 3) := by decide +kernel
theorem dX11_comesInto_82 : decode cX11_comesInto 82 = .ok (.aload_n 0, 1) := by decide +kernel
theorem dX11_comesInto_83 : decode cX11_comesInto 83 = .ok (.iload_n 1, 1) := by decide +kernel
theorem dX11_comesInto_84 : decode cX11_comesInto 84 = .ok (.invokevirtual 108, 3) := by decide +kernel
theorem dX11_comesInto_87 : decode cX11_comesInto 87 = .ok (.ireturn, 1) := by decide +kernel
theorem dX11_goes_0 : decode cX11_goes 0 = .ok (.aload_n 0, 1) := by decide +kernel
theorem dX11_goes_1 : decode cX11_goes 1 = .ok (.iload_n 1, 1) := by decide +kernel
theorem dX11_goes_2 : decode cX11_goes 2 = .ok (.invokevirtual 156, 3) := by decide +kernel
theorem dX11_goes_5 : decode cX11_goes 5 = .ok (.aload_n 0, 1) := by decide +kernel
theorem dX11_goes_6 : decode cX11_goes 6 = .ok (.iconst 0, 1) := by decide +kernel
theorem dX11_goes_7 : decode cX11_goes 7 = .ok (.putfield 159, 3) := by decide +kernel
theorem dX11_goes_10 : decode cX11_goes 10 = .ok (.aload_n 0, 1) := by decide +kernel
theorem dX11_goes_11 : decode cX11_goes 11 = .ok (.iconst (-1), 1) := by decide +kernel
theorem dX11_goes_12 : decode cX11_goes 12 = .ok (.putfield 163, 3) := by decide +kernel
theorem dX11_goes_15 : decode cX11_goes 15 = .ok (.iconst 0, 1) := by decide +kernel
theorem dX11_goes_16 : decode cX11_goes 16 = .ok (.istore_n 2, 1) := by decide +kernel
theorem dX11_goes_17 : decode cX11_goes 17 = .ok (.iload_n 2, 1) := by decide +kernel
theorem dX11_goes_18 : decode cX11_goes 18 = .ok (.ifCond .ne 111, 3) := by decide +kernel
theorem dX11_goes_21 : decode cX11_goes 21 = .ok (.aload_n 0, 1) := by decide +kernel
theorem dX11_goes_22 : decode cX11_goes 22 = .ok (.invokevirtual 166, 3) := by decide +kernel
theorem dX11_goes_25 : decode cX11_goes 25 = .ok (.ifCond .ne 104, 3) := by decide +kernel
theorem dX11_goes_28 : decode cX11_goes 28 = .ok (.aload_n 0, 1) := by decide +kernel
theorem dX11_goes_29 : decode cX11_goes 29 = .ok (.getfield 135, 3) := by decide +kernel
theorem dX11_goes_32 : decode cX11_goes 32 = .ok (.sipush 5000, 3) := by decide +kernel
theorem dX11_goes_35 : decode cX11_goes 35 = .ok (.if_icmp .ne 7, 3) := by decide +kernel
theorem dX11_goes_38 : decode cX11_goes 38 = .ok (.iconst 1, 1) := by decide +kernel
theorem dX11_goes_39 : decode cX11_goes 39 = .ok (.goto 4, 3) := by decide +kernel
theorem dX11_goes_42 : decode cX11_goes 42 = .ok (.iconst 0, 1) := by decide +kernel
theorem dX11_goes_43 : decode cX11_goes 43 = .ok (.istore_n 2, 1) := by decide +kernel
theorem dX11_goes_44 : decode cX11_goes 44 = .ok (.iload_n 2, 1) := by decide +kernel
theorem dX11_goes_45 : decode cX11_goes 45 = .ok (.ifCond .ne 73, 3) := by decide +kernel
theorem dX11_goes_48 : decode cX11_goes 48 = .ok (.aload_n 0, 1) := by decide +kernel
theorem dX11_goes_49 : decode cX11_goes 49 = .ok (.getfield 7, 3) := by decide +kernel
theorem dX11_goes_52 : decode cX11_goes 52 = .ok (.iconst 1, 1) := by decide +kernel
theorem dX11_goes_53 : decode cX11_goes 53 = .ok (.iaload, 1) := by decide +kernel
theorem dX11_goes_54 : decode cX11_goes 54 = .ok (.aload_n 0, 1) := by decide +kernel
theorem dX11_goes_55 : decode cX11_goes 55 = .ok (.getfield 141, 3) := by decide +kernel
theorem dX11_goes_58 : decode cX11_goes 58 = .ok (.imul, 1) := by decide +kernel
theorem dX11_goes_59 : decode cX11_goes 59 = .ok (.aload_n 0, 1) := by decide +kernel
theorem dX11_goes_60 : decode cX11_goes 60 = .ok (.getfield 144, 3) := by decide +kernel
theorem dX11_goes_63 : decode cX11_goes 63 = .ok (.iadd, 1) := by decide +kernel
theorem dX11_goes_64 : decode cX11_goes 64 = .ok (.istore_n 3, 1) := by decide +kernel
theorem dX11_goes_65 : decode cX11_goes 65 = .ok (.aload_n 0, 1) := by decide +kernel
theorem dX11_goes_66 : decode cX11_goes 66 = .ok (.aload_n 0, 1) := by decide +kernel
theorem dX11_goes_67 : decode cX11_goes 67 = .ok (.getfield 159, 3) := by decide +kernel
theorem dX11_goes_70 : decode cX11_goes 70 = .ok (.ifCond .ne 11, 3) := by decide +kernel
theorem dX11_goes_73 : decode cX11_goes 73 = .ok (.iload_n 3, 1) := by decide +kernel
theorem dX11_goes_74 : decode cX11_goes 74 = .ok (.aload_n 0, 1) := by decide +kernel
theorem dX11_goes_75 : decode cX11_goes 75 = .ok (.getfield 25, 3) := by decide +kernel
theorem dX11_goes_78 : decode cX11_goes 78 = .ok (.if_icmp .ne 7, 3) := by decide +kernel
theorem dX11_goes_81 : decode cX11_goes 81 = .ok (.iconst 1, 1) := by decide +kernel
theorem dX11_goes_82 : decode cX11_goes 82 = .ok (.goto 4, 3) := by decide +kernel
theorem dX11_goes_85 : decode cX11_goes 85 = .ok (.iconst 0, 1) := by decide +kernel
theorem dX11_goes_86 : decode cX11_goes 86 = .ok (.putfield 159, 3) := by decide +kernel
theorem dX11_goes_89 : decode cX11_goes 89 = .ok (.aload_n 0, 1) := by decide +kernel
theorem dX11_goes_90 : decode cX11_goes 90 = .ok (.aload_n 0, 1) := by decide +kernel
theorem dX11_goes_91 : decode cX11_goes 91 = .ok (.getfield 135, 3) := by decide +kernel
theorem dX11_goes_94 : decode cX11_goes 94 = .ok (.aload_n 0, 1) := by decide +kernel
theorem dX11_goes_95 : decode cX11_goes 95 = .ok (.getfield 29, 3) := by decide +kernel
theorem dX11_goes_98 : decode cX11_goes 98 = .ok (.if_icmp .ne 7, 3) := by decide +kernel
theorem dX11_goes_101 : decode cX11_goes 101 = .ok (.iload_n 3, 1) := by decide +kernel
theorem dX11_goes_102 : decode cX11_goes 102 = .ok (.goto 7, 3) := by decide +kernel
theorem dX11_goes_105 : decode cX11_goes 105 = .ok (.aload_n 0, 1) := by decide +kernel
theorem dX11_goes_106 : decode cX11_goes 106 = .ok (.getfield 163, 3) := by decide +kernel
theorem dX11_goes_109 : decode cX11_goes 109 = .ok (.putfield 163, 3) := by decide +kernel
theorem dX11_goes_112 : decode cX11_goes 112 = .ok (.aload_n 0, 1) := by decide +kernel
theorem dX11_goes_113 : decode cX11_goes 113 = .ok (.iload_n 3, 1) := by decide +kernel
theorem dX11_goes_114 : decode cX11_goes 114 = .ok (.invokevirtual 170, 3) := by decide +kernel
theorem dX11_goes_117 : decode cX11_goes 117 = .ok (.istore_n 2, 1) := by decide +kernel
theorem dX11_goes_118 : decode cX11_goes 118 = .ok (.iload_n 2, 1) := by decide +kernel
theorem dX11_goes_119 : decode cX11_goes 119 = .ok (.ifCond .ne (-102), 3) := by decide +kernel
theorem dX11_goes_122 : decode cX11_goes 122 = .ok (.aload_n 0, 1) := by decide +kernel
theorem dX11_goes_123 : decode cX11_goes 123 = .ok (.invokevirtual 173, 3) := by decide +kernel
theorem dX11_goes_126 : decode cX11_goes 126 = .ok (.goto (-109), 3) := by decide +kernel
theorem dX11_goes_129 : decode cX11_goes 129 = .ok (.iload_n 2, 1) := by decide +kernel
theorem dX11_goes_130 : decode cX11_goes 130 = .ok (.ifCond .eq 8, 3) := by decide +kernel
theorem dX11_goes_133 : decode cX11_goes 133 = .ok (.bipush 100, 2) := by decide +kernel
theorem dX11_goes_135 : decode cX11_goes 135 = .ok (.goto 7, 3) := by decide +kernel
theorem dX11_goes_138 : decode cX11_goes 138 = .ok (.aload_n 0, 1) := by decide +kernel
theorem dX11_goes_139 : decode cX11_goes 139 = .ok (.invokevirtual 176, 3) := by decide +kernel
theorem dX11_goes_142 : decode cX11_goes 142 = .ok (.ireturn, 1) := by decide +kernel
theorem dX11_letIn_0 : decode cX11_letIn 0 = .ok (.aload_n 0, 1) := by decide +kernel
theorem dX11_letIn_1 : decode cX11_letIn 1 = .ok (.iload_n 1, 1) := by decide +kernel
theorem dX11_letIn_2 : decode cX11_letIn 2 = .ok (.invokevirtual 179, 3) := by decide +kernel
theorem dX11_letIn_5 : decode cX11_letIn 5 = .ok (.istore_n 2, 1) := by decide +kernel
theorem dX11_letIn_6 : decode cX11_letIn 6 = .ok (.aload_n 0, 1) := by decide +kernel
theorem dX11_letIn_7 : decode cX11_letIn 7 = .ok (.aload_n 0, 1) := by decide +kernel
theorem dX11_letIn_8 : decode cX11_letIn 8 = .ok (.iconst 1, 1) := by decide +kernel
theorem dX11_letIn_9 : decode cX11_letIn 9 = .ok (.iload_n 1, 1) := by decide +kernel
theorem dX11_letIn_10 : decode cX11_letIn 10 = .ok (.iload_n 2, 1) := by decide +kernel
theorem dX11_letIn_11 : decode cX11_letIn 11 = .ok (.aload_n 0, 1) := by decide +kernel
theorem dX11_letIn_12 : decode cX11_letIn 12 = .ok (.getfield 138, 3) := by decide +kernel
theorem dX11_letIn_15 : decode cX11_letIn 15 = .ok (.invokevirtual 95, 3) := by decide +kernel
theorem dX11_letIn_18 : decode cX11_letIn 18 = .ok (.invokevirtual 121, 3) := by decide +kernel
theorem dX11_letIn_21 : decode cX11_letIn 21 = .ok (.iload_n 2, 1) := by decide +kernel
theorem dX11_letIn_22 : decode cX11_letIn 22 = .ok (.ireturn, 1) := by decide +kernel
theorem dX11_let_0 : decode cX11_let 0 = .ok (.aload_n 0, 1) := by decide +kernel
theorem dX11_let_1 : decode cX11_let 1 = .ok (.iload_n 1, 1) := by decide +kernel
theorem dX11_let_2 : decode cX11_let 2 = .ok (.invokevirtual 182, 3) := by decide +kernel
theorem dX11_let_5 : decode cX11_let 5 = .ok (.ifCond .eq 11, 3) := by decide +kernel
theorem dX11_let_8 : decode cX11_let 8 = .ok (.aload_n 0, 1) := by decide +kernel
theorem dX11_let_9 : decode cX11_let 9 = .ok (.iload_n 1, 1) := by decide +kernel
theorem dX11_let_10 : decode cX11_let 10 = .ok (.invokevirtual 185, 3) := by decide +kernel
theorem dX11_let_13 : decode cX11_let 13 = .ok (.goto 9, 3) := by decide +kernel
theorem dX11_let_16 : decode cX11_let 16 = .ok (.aload_n 0, 1) := by decide +kernel
theorem dX11_let_17 : decode cX11_let 17 = .ok (.ldc 78, 2) := by decide +kernel
theorem dX11_let_19 : decode cX11_let 19 = .ok (.invokevirtual 79, 3) := by decide +kernel
theorem dX11_let_22 : decode cX11_let 22 = .ok (.ireturn, 1) := by decide +kernel
theorem dX11_bits_0 : decode cX11_bits 0 = .ok (.iconst 0, 1) := by decide +kernel
theorem dX11_bits_1 : decode cX11_bits 1 = .ok (.istore_n 1, 1) := by decide +kernel
theorem dX11_bits_2 : decode cX11_bits 2 = .ok (.iconst 0, 1) := by decide +kernel
theorem dX11_bits_3 : decode cX11_bits 3 = .ok (.istore_n 2, 1) := by decide +kernel
theorem dX11_bits_4 : decode cX11_bits 4 = .ok (.iload_n 2, 1) := by decide +kernel
theorem dX11_bits_5 : decode cX11_bits 5 = .ok (.bipush 25, 2) := by decide +kernel
theorem dX11_bits_7 : decode cX11_bits 7 = .ok (.if_icmp .ge 17, 3) := by decide +kernel
theorem dX11_bits_10 : decode cX11_bits 10 = .ok (.iload_n 1, 1) := by decide +kernel
theorem dX11_bits_11 : decode cX11_bits 11 = .ok (.iload_n 0, 1) := by decide +kernel
theorem dX11_bits_12 : decode cX11_bits 12 = .ok (.iload_n 2, 1) := by decide +kernel
theorem dX11_bits_13 : decode cX11_bits 13 = .ok (.ishr, 1) := by decide +kernel
theorem dX11_bits_14 : decode cX11_bits 14 = .ok (.iconst 1, 1) := by decide +kernel
theorem dX11_bits_15 : decode cX11_bits 15 = .ok (.iand, 1) := by decide +kernel
theorem dX11_bits_16 : decode cX11_bits 16 = .ok (.iadd, 1) := by decide +kernel
theorem dX11_bits_17 : decode cX11_bits 17 = .ok (.istore_n 1, 1) := by decide +kernel
theorem dX11_bits_18 : decode cX11_bits 18 = .ok (.iinc 2 1, 3) := by decide +kernel
theorem dX11_bits_21 : decode cX11_bits 21 = .ok (.goto (-17), 3) := by decide +kernel
theorem dX11_bits_24 : decode cX11_bits 24 = .ok (.iload_n 1, 1) := by decide +kernel
theorem dX11_bits_25 : decode cX11_bits 25 = .ok (.ireturn, 1) := by decide +kernel
theorem dX11_out_0 : decode cX11_out 0 = .ok (.aload_n 0, 1) := by decide +kernel
theorem dX11_out_1 : decode cX11_out 1 = .ok (.iload_n 1, 1) := by decide +kernel
theorem dX11_out_2 : decode cX11_out 2 = .ok (.invokevirtual 182, 3) := by decide +kernel
theorem dX11_out_5 : decode cX11_out 5 = .ok (.ifCond .eq 12, 3) := by decide +kernel
theorem dX11_out_8 : decode cX11_out 8 = .ok (.iload_n 2, 1) := by decide +kernel
theorem dX11_out_9 : decode cX11_out 9 = .ok (.iconst 0, 1) := by decide +kernel
theorem dX11_out_10 : decode cX11_out 10 = .ok (.iconst 3, 1) := by decide +kernel
theorem dX11_out_11 : decode cX11_out 11 = .ok (.invokestatic 71, 3) := by decide +kernel
theorem dX11_out_14 : decode cX11_out 14 = .ok (.ifCond .ne 10, 3) := by decide +kernel
theorem dX11_out_17 : decode cX11_out 17 = .ok (.aload_n 0, 1) := by decide +kernel
theorem dX11_out_18 : decode cX11_out 18 = .ok (.ldc 78, 2) := by decide +kernel
theorem dX11_out_20 : decode cX11_out 20 = .ok (.invokevirtual 79, 3) := by decide +kernel
theorem dX11_out_23 : decode cX11_out 23 = .ok (.ireturn, 1) := by decide +kernel
theorem dX11_out_24 : decode cX11_out 24 = .ok (.aload_n 0, 1) := by decide +kernel
theorem dX11_out_25 : decode cX11_out 25 = .ok (.aload_n 0, 1) := by decide +kernel
theorem dX11_out_26 : decode cX11_out 26 = .ok (.getfield 7, 3) := by decide +kernel
theorem dX11_out_29 : decode cX11_out 29 = .ok (.aload_n 0, 1) := by decide +kernel
theorem dX11_out_30 : decode cX11_out 30 = .ok (.getfield 16, 3) := by decide +kernel
theorem dX11_out_33 : decode cX11_out 33 = .ok (.invokevirtual 188, 3) := by decide +kernel
theorem dX11_out_36 : decode cX11_out 36 = .ok (.aload_n 0, 1) := by decide +kernel
theorem dX11_out_37 : decode cX11_out 37 = .ok (.invokevirtual 132, 3) := by decide +kernel
theorem dX11_out_40 : decode cX11_out 40 = .ok (.istore_n 3, 1) := by decide +kernel
theorem dX11_out_41 : decode cX11_out 41 = .ok (.aload_n 0, 1) := by decide +kernel
theorem dX11_out_42 : decode cX11_out 42 = .ok (.iload_n 1, 1) := by decide +kernel
theorem dX11_out_43 : decode cX11_out 43 = .ok (.invokevirtual 179, 3) := by decide +kernel
theorem dX11_out_46 : decode cX11_out 46 = .ok (.istore 4, 2) := by decide +kernel
theorem dX11_out_48 : decode cX11_out 48 = .ok (.iload_n 3, 1) := by decide +kernel
theorem dX11_out_49 : decode cX11_out 49 = .ok (.aload_n 0, 1) := by decide +kernel
theorem dX11_out_50 : decode cX11_out 50 = .ok (.invokevirtual 132, 3) := by decide +kernel
theorem dX11_out_53 : decode cX11_out 53 = .ok (.ixor, 1) := by decide +kernel
theorem dX11_out_54 : decode cX11_out 54 = .ok (.invokestatic 192, 3) := by decide +kernel
theorem dX11_out_57 : decode cX11_out 57 = .ok (.istore 5, 2) := by decide +kernel
theorem dX11_out_59 : decode cX11_out 59 = .ok (.aload_n 0, 1) := by decide +kernel
theorem dX11_out_60 : decode cX11_out 60 = .ok (.aload_n 0, 1) := by decide +kernel
theorem dX11_out_61 : decode cX11_out 61 = .ok (.getfield 16, 3) := by decide +kernel
theorem dX11_out_64 : decode cX11_out 64 = .ok (.aload_n 0, 1) := by decide +kernel
theorem dX11_out_65 : decode cX11_out 65 = .ok (.getfield 7, 3) := by decide +kernel
theorem dX11_out_68 : decode cX11_out 68 = .ok (.invokevirtual 188, 3) := by decide +kernel
theorem dX11_out_71 : decode cX11_out 71 = .ok (.iload_n 2, 1) := by decide +kernel
theorem dX11_out_72 : decode cX11_out 72 = .ok (.ifCond .ne 8, 3) := by decide +kernel
theorem dX11_out_75 : decode cX11_out 75 = .ok (.iload 4, 2) := by decide +kernel
theorem dX11_out_77 : decode cX11_out 77 = .ok (.goto 29, 3) := by decide +kernel
theorem dX11_out_80 : decode cX11_out 80 = .ok (.iload_n 2, 1) := by decide +kernel
theorem dX11_out_81 : decode cX11_out 81 = .ok (.iconst 1, 1) := by decide +kernel
theorem dX11_out_82 : decode cX11_out 82 = .ok (.if_icmp .ne 10, 3) := by decide +kernel
theorem dX11_out_85 : decode cX11_out 85 = .ok (.aload_n 0, 1) := by decide +kernel
theorem dX11_out_86 : decode cX11_out 86 = .ok (.getfield 135, 3) := by decide +kernel
theorem dX11_out_89 : decode cX11_out 89 = .ok (.goto 17, 3) := by decide +kernel
theorem dX11_out_92 : decode cX11_out 92 = .ok (.iload_n 2, 1) := by decide +kernel
theorem dX11_out_93 : decode cX11_out 93 = .ok (.iconst 2, 1) := by decide +kernel
theorem dX11_out_94 : decode cX11_out 94 = .ok (.if_icmp .ne 10, 3) := by decide +kernel
theorem dX11_out_97 : decode cX11_out 97 = .ok (.aload_n 0, 1) := by decide +kernel
theorem dX11_out_98 : decode cX11_out 98 = .ok (.getfield 138, 3) := by decide +kernel
theorem dX11_out_101 : decode cX11_out 101 = .ok (.goto 5, 3) := by decide +kernel
theorem dX11_out_104 : decode cX11_out 104 = .ok (.iload 5, 2) := by decide +kernel
theorem dX11_out_106 : decode cX11_out 106 = .ok (.ireturn, 1) := by decide +kernel
theorem dX11_way_0 : decode cX11_way 0 = .ok (.aload_n 0, 1) := by decide +kernel
theorem dX11_way_1 : decode cX11_way 1 = .ok (.iload_n 1, 1) := by decide +kernel
theorem dX11_way_2 : decode cX11_way 2 = .ok (.invokevirtual 182, 3) := by decide +kernel
theorem dX11_way_5 : decode cX11_way 5 = .ok (.ifCond .eq 7, 3) := by decide +kernel
theorem dX11_way_8 : decode cX11_way 8 = .ok (.iload_n 2, 1) := by decide +kernel
theorem dX11_way_9 : decode cX11_way 9 = .ok (.ifCond .ge 10, 3) := by decide +kernel
theorem dX11_way_12 : decode cX11_way 12 = .ok (.aload_n 0, 1) := by decide +kernel
theorem dX11_way_13 : decode cX11_way 13 = .ok (.ldc 78, 2) := by decide +kernel
theorem dX11_way_15 : decode cX11_way 15 = .ok (.invokevirtual 79, 3) := by decide +kernel
theorem dX11_way_18 : decode cX11_way 18 = .ok (.ireturn, 1) := by decide +kernel
theorem dX11_way_19 : decode cX11_way 19 = .ok (.aload_n 0, 1) := by decide +kernel
theorem dX11_way_20 : decode cX11_way 20 = .ok (.aload_n 0, 1) := by decide +kernel
theorem dX11_way_21 : decode cX11_way 21 = .ok (.getfield 7, 3) := by decide +kernel
theorem dX11_way_24 : decode cX11_way 24 = .ok (.aload_n 0, 1) := by decide +kernel
theorem dX11_way_25 : decode cX11_way 25 = .ok (.getfield 16, 3) := by decide +kernel
theorem dX11_way_28 : decode cX11_way 28 = .ok (.invokevirtual 188, 3) := by decide +kernel
theorem dX11_way_31 : decode cX11_way 31 = .ok (.aload_n 0, 1) := by decide +kernel
theorem dX11_way_32 : decode cX11_way 32 = .ok (.iload_n 2, 1) := by decide +kernel
theorem dX11_way_33 : decode cX11_way 33 = .ok (.putfield 29, 3) := by decide +kernel
theorem dX11_way_36 : decode cX11_way 36 = .ok (.aload_n 0, 1) := by decide +kernel
theorem dX11_way_37 : decode cX11_way 37 = .ok (.iload_n 1, 1) := by decide +kernel
theorem dX11_way_38 : decode cX11_way 38 = .ok (.invokevirtual 179, 3) := by decide +kernel
theorem dX11_way_41 : decode cX11_way 41 = .ok (.istore_n 3, 1) := by decide +kernel
theorem dX11_way_42 : decode cX11_way 42 = .ok (.aload_n 0, 1) := by decide +kernel
theorem dX11_way_43 : decode cX11_way 43 = .ok (.iconst (-1), 1) := by decide +kernel
theorem dX11_way_44 : decode cX11_way 44 = .ok (.putfield 29, 3) := by decide +kernel
theorem dX11_way_47 : decode cX11_way 47 = .ok (.aload_n 0, 1) := by decide +kernel
theorem dX11_way_48 : decode cX11_way 48 = .ok (.aload_n 0, 1) := by decide +kernel
theorem dX11_way_49 : decode cX11_way 49 = .ok (.getfield 16, 3) := by decide +kernel
theorem dX11_way_52 : decode cX11_way 52 = .ok (.aload_n 0, 1) := by decide +kernel
theorem dX11_way_53 : decode cX11_way 53 = .ok (.getfield 7, 3) := by decide +kernel
theorem dX11_way_56 : decode cX11_way 56 = .ok (.invokevirtual 188, 3) := by decide +kernel
theorem dX11_way_59 : decode cX11_way 59 = .ok (.iload_n 3, 1) := by decide +kernel
theorem dX11_way_60 : decode cX11_way 60 = .ok (.ifCond .lt 10, 3) := by decide +kernel
theorem dX11_way_63 : decode cX11_way 63 = .ok (.aload_n 0, 1) := by decide +kernel
theorem dX11_way_64 : decode cX11_way 64 = .ok (.getfield 163, 3) := by decide +kernel
theorem dX11_way_67 : decode cX11_way 67 = .ok (.ifCond .ge 12, 3) := by decide +kernel
theorem dX11_way_70 : decode cX11_way 70 = .ok (.aload_n 0, 1) := by decide +kernel
theorem dX11_way_71 : decode cX11_way 71 = .ok (.ldc 195, 2) := by decide +kernel
theorem dX11_way_73 : decode cX11_way 73 = .ok (.invokevirtual 79, 3) := by decide +kernel
theorem dX11_way_76 : decode cX11_way 76 = .ok (.goto 7, 3) := by decide +kernel
theorem dX11_way_79 : decode cX11_way 79 = .ok (.aload_n 0, 1) := by decide +kernel
theorem dX11_way_80 : decode cX11_way 80 = .ok (.getfield 163, 3) := by decide +kernel
theorem dX11_way_83 : decode cX11_way 83 = .ok (.ireturn, 1) := by decide +kernel
theorem dX11_comesBack_0 : decode cX11_comesBack 0 = .ok (.aload_n 0, 1) := by decide +kernel
theorem dX11_comesBack_1 : decode cX11_comesBack 1 = .ok (.iload_n 1, 1) := by decide +kernel
theorem dX11_comesBack_2 : decode cX11_comesBack 2 = .ok (.iconst 0, 1) := by decide +kernel
theorem dX11_comesBack_3 : decode cX11_comesBack 3 = .ok (.invokevirtual 87, 3) := by decide +kernel
theorem dX11_comesBack_6 : decode cX11_comesBack 6 = .ok (.istore_n 3, 1) := by decide +kernel
theorem dX11_comesBack_7 : decode cX11_comesBack 7 = .ok (.aload_n 0, 1) := by decide +kernel
theorem dX11_comesBack_8 : decode cX11_comesBack 8 = .ok (.iload_n 1, 1) := by decide +kernel
theorem dX11_comesBack_9 : decode cX11_comesBack 9 = .ok (.iconst 4, 1) := by decide +kernel
theorem dX11_comesBack_10 : decode cX11_comesBack 10 = .ok (.aload_n 0, 1) := by decide +kernel
theorem dX11_comesBack_11 : decode cX11_comesBack 11 = .ok (.iload_n 1, 1) := by decide +kernel
theorem dX11_comesBack_12 : decode cX11_comesBack 12 = .ok (.iconst 4, 1) := by decide +kernel
theorem dX11_comesBack_13 : decode cX11_comesBack 13 = .ok (.invokevirtual 87, 3) := by decide +kernel
theorem dX11_comesBack_16 : decode cX11_comesBack 16 = .ok (.ifCond .le 14, 3) := by decide +kernel
theorem dX11_comesBack_19 : decode cX11_comesBack 19 = .ok (.aload_n 0, 1) := by decide +kernel
theorem dX11_comesBack_20 : decode cX11_comesBack 20 = .ok (.iload_n 1, 1) := by decide +kernel
theorem dX11_comesBack_21 : decode cX11_comesBack 21 = .ok (.iconst 4, 1) := by decide +kernel
theorem dX11_comesBack_22 : decode cX11_comesBack 22 = .ok (.invokevirtual 87, 3) := by decide +kernel
theorem dX11_comesBack_25 : decode cX11_comesBack 25 = .ok (.iconst 1, 1) := by decide +kernel
theorem dX11_comesBack_26 : decode cX11_comesBack 26 = .ok (.isub, 1) := by decide +kernel
theorem dX11_comesBack_27 : decode cX11_comesBack 27 = .ok (.goto 4, 3) := by decide +kernel
theorem dX11_comesBack_30 : decode cX11_comesBack 30 = .ok (.iconst 0, 1) := by decide +kernel
theorem dX11_comesBack_31 : decode cX11_comesBack 31 = .ok (.invokevirtual 91, 3) := by decide +kernel
theorem dX11_comesBack_34 : decode cX11_comesBack 34 = .ok (.iload_n 3, 1) := by decide +kernel
theorem dX11_comesBack_35 : decode cX11_comesBack 35 = .ok (.iconst 5, 1) := by decide +kernel
theorem dX11_comesBack_36 : decode cX11_comesBack 36 = .ok (.if_icmp .ne 29, 3) := by decide +kernel
theorem dX11_comesBack_39 : decode cX11_comesBack 39 = .ok (.aload_n 0, 1) := by decide +kernel
theorem dX11_comesBack_40 : decode cX11_comesBack 40 = .ok (.iload_n 1, 1) := by decide +kernel
theorem dX11_comesBack_41 : decode cX11_comesBack 41 = .ok (.iconst 3, 1) := by decide +kernel
theorem dX11_comesBack_42 : decode cX11_comesBack 42 = .ok (.invokevirtual 87, 3) := by decide +kernel
theorem dX11_comesBack_45 : decode cX11_comesBack 45 = .ok (.ifCond .le 20, 3) := by decide +kernel
theorem dX11_comesBack_48 : decode cX11_comesBack 48 = .ok (.aload_n 0, 1) := by decide +kernel
theorem dX11_comesBack_49 : decode cX11_comesBack 49 = .ok (.iload_n 1, 1) := by decide +kernel
theorem dX11_comesBack_50 : decode cX11_comesBack 50 = .ok (.iconst 3, 1) := by decide +kernel
theorem dX11_comesBack_51 : decode cX11_comesBack 51 = .ok (.aload_n 0, 1) := by decide +kernel
theorem dX11_comesBack_52 : decode cX11_comesBack 52 = .ok (.iload_n 1, 1) := by decide +kernel
theorem dX11_comesBack_53 : decode cX11_comesBack 53 = .ok (.iconst 3, 1) := by decide +kernel
theorem dX11_comesBack_54 : decode cX11_comesBack 54 = .ok (.invokevirtual 87, 3) := by decide +kernel
theorem dX11_comesBack_57 : decode cX11_comesBack 57 = .ok (.iconst 1, 1) := by decide +kernel
theorem dX11_comesBack_58 : decode cX11_comesBack 58 = .ok (.isub, 1) := by decide +kernel
theorem dX11_comesBack_59 : decode cX11_comesBack 59 = .ok (.invokevirtual 91, 3) := by decide +kernel
theorem dX11_comesBack_62 : decode cX11_comesBack 62 = .ok (.goto 42, 3) := by decide +kernel
theorem dX11_comesBack_65 : decode cX11_comesBack 65 = .ok (.iload_n 3, 1) := by decide +kernel
theorem dX11_comesBack_66 : decode cX11_comesBack 66 = .ok (.iconst 5, 1) := by decide +kernel
theorem dX11_comesBack_67 : decode cX11_comesBack 67 = .ok (.if_icmp .ne 27, 3) := by decide +kernel
theorem dX11_comesBack_70 : decode cX11_comesBack 70 = .ok (.aload_n 0, 1) := by decide +kernel
theorem dX11_comesBack_71 : decode cX11_comesBack 71 = .ok (.iload_n 1, 1) := by decide +kernel
theorem dX11_comesBack_72 : decode cX11_comesBack 72 = .ok (.iconst 3, 1) := by decide +kernel
theorem dX11_comesBack_73 : decode cX11_comesBack 73 = .ok (.iconst 1, 1) := by decide +kernel
theorem dX11_comesBack_74 : decode cX11_comesBack 74 = .ok (.aload_n 0, 1) := by decide +kernel
theorem dX11_comesBack_75 : decode cX11_comesBack 75 = .ok (.iload_n 1, 1) := by decide +kernel
theorem dX11_comesBack_76 : decode cX11_comesBack 76 = .ok (.iconst 1, 1) := by decide +kernel
theorem dX11_comesBack_77 : decode cX11_comesBack 77 = .ok (.invokevirtual 87, 3) := by decide +kernel
theorem dX11_comesBack_80 : decode cX11_comesBack 80 = .ok (.iconst 3, 1) := by decide +kernel
theorem dX11_comesBack_81 : decode cX11_comesBack 81 = .ok (.irem, 1) := by decide +kernel
theorem dX11_comesBack_82 : decode cX11_comesBack 82 = .ok (.iadd, 1) := by decide +kernel
theorem dX11_comesBack_83 : decode cX11_comesBack 83 = .ok (.invokevirtual 91, 3) := by decide +kernel
theorem dX11_comesBack_86 : decode cX11_comesBack 86 = .ok (.aload_n 0, 1) := by decide +kernel
theorem dX11_comesBack_87 : decode cX11_comesBack 87 = .ok (.iload_n 1, 1) := by decide +kernel
theorem dX11_comesBack_88 : decode cX11_comesBack 88 = .ok (.invokevirtual 125, 3) := by decide +kernel
theorem dX11_comesBack_91 : decode cX11_comesBack 91 = .ok (.goto 13, 3) := by decide +kernel
theorem dX11_comesBack_94 : decode cX11_comesBack 94 = .ok (.iload_n 3, 1) := by decide +kernel
theorem dX11_comesBack_95 : decode cX11_comesBack 95 = .ok (.iconst 1, 1) := by decide +kernel
theorem dX11_comesBack_96 : decode cX11_comesBack 96 = .ok (.if_icmp .ne 8, 3) := by decide +kernel
theorem dX11_comesBack_99 : decode cX11_comesBack 99 = .ok (.aload_n 0, 1) := by decide +kernel
theorem dX11_comesBack_100 : decode cX11_comesBack 100 = .ok (.iload_n 1, 1) := by decide +kernel
theorem dX11_comesBack_101 : decode cX11_comesBack 101 = .ok (.invokevirtual 125, 3) := by decide +kernel
theorem dX11_comesBack_104 : decode cX11_comesBack 104 = .ok (.aload_n 0, 1) := by decide +kernel
theorem dX11_comesBack_105 : decode cX11_comesBack 105 = .ok (.iload_n 1, 1) := by decide +kernel
theorem dX11_comesBack_106 : decode cX11_comesBack 106 = .ok (.invokevirtual 105, 3) := by decide +kernel
theorem dX11_comesBack_109 : decode cX11_comesBack 109 = .ok (.ifCond .eq 16, 3) := by decide +kernel
theorem dX11_comesBack_112 : decode cX11_comesBack 112 = .ok (.iload_n 2, 1) := by decide +kernel
theorem dX11_comesBack_113 : decode cX11_comesBack 113 = .ok (.aload_n 0, 1) := by decide +kernel
theorem dX11_comesBack_114 : decode cX11_comesBack 114 = .ok (.iload_n 1, 1) := by decide +kernel
theorem dX11_comesBack_115 : decode cX11_comesBack 115 = .ok (.iconst 2, 1) := by decide +kernel
theorem dX11_comesBack_116 : decode cX11_comesBack 116 = .ok (.invokevirtual 87, 3) := by decide +kernel
theorem dX11_comesBack_119 : decode cX11_comesBack 119 = .ok (.invokestatic 150, 3) := by decide +kernel
theorem dX11_comesBack_122 : decode cX11_comesBack 122 = .ok (.goto 4, 3) := by decide +kernel
theorem dX11_comesBack_125 : decode cX11_comesBack 125 = .ok (.iload_n 2, 1) := by decide +kernel
theorem dX11_comesBack_126 : decode cX11_comesBack 126 = .ok (.istore 4, 2) := by decide +kernel
theorem dX11_comesBack_128 : decode cX11_comesBack 128 = .ok (.aload_n 0, 1) := by decide +kernel
theorem dX11_comesBack_129 : decode cX11_comesBack 129 = .ok (.iload 4, 2) := by decide +kernel
theorem dX11_comesBack_131 : decode cX11_comesBack 131 = .ok (.iconst 2, 1) := by decide +kernel
theorem dX11_comesBack_132 : decode cX11_comesBack 132 = .ok (.iadd, 1) := by decide +kernel
theorem dX11_comesBack_133 : decode cX11_comesBack 133 = .ok (.iconst 4, 1) := by decide +kernel
theorem dX11_comesBack_134 : decode cX11_comesBack 134 = .ok (.irem, 1) := by decide +kernel
theorem dX11_comesBack_135 : decode cX11_comesBack 135 = .ok (.putfield 147, 3) := by decide +kernel
theorem dX11_comesBack_138 : decode cX11_comesBack 138 = .ok (.return_, 1) := by decide +kernel
theorem dX11_undo_0 : decode cX11_undo 0 = .ok (.aload_n 0, 1) := by decide +kernel
theorem dX11_undo_1 : decode cX11_undo 1 = .ok (.iload_n 1, 1) := by decide +kernel
theorem dX11_undo_2 : decode cX11_undo 2 = .ok (.invokevirtual 182, 3) := by decide +kernel
theorem dX11_undo_5 : decode cX11_undo 5 = .ok (.ifCond .ne 10, 3) := by decide +kernel
theorem dX11_undo_8 : decode cX11_undo 8 = .ok (.aload_n 0, 1) := by decide +kernel
theorem dX11_undo_9 : decode cX11_undo 9 = .ok (.ldc 78, 2) := by decide +kernel
theorem dX11_undo_11 : decode cX11_undo 11 = .ok (.invokevirtual 79, 3) := by decide +kernel
theorem dX11_undo_14 : decode cX11_undo 14 = .ok (.ireturn, 1) := by decide +kernel
theorem dX11_undo_15 : decode cX11_undo 15 = .ok (.aload_n 0, 1) := by decide +kernel
theorem dX11_undo_16 : decode cX11_undo 16 = .ok (.aload_n 0, 1) := by decide +kernel
theorem dX11_undo_17 : decode cX11_undo 17 = .ok (.getfield 7, 3) := by decide +kernel
theorem dX11_undo_20 : decode cX11_undo 20 = .ok (.aload_n 0, 1) := by decide +kernel
theorem dX11_undo_21 : decode cX11_undo 21 = .ok (.getfield 16, 3) := by decide +kernel
theorem dX11_undo_24 : decode cX11_undo 24 = .ok (.invokevirtual 188, 3) := by decide +kernel
theorem dX11_undo_27 : decode cX11_undo 27 = .ok (.aload_n 0, 1) := by decide +kernel
theorem dX11_undo_28 : decode cX11_undo 28 = .ok (.iload_n 1, 1) := by decide +kernel
theorem dX11_undo_29 : decode cX11_undo 29 = .ok (.invokevirtual 156, 3) := by decide +kernel
theorem dX11_undo_32 : decode cX11_undo 32 = .ok (.iconst 1, 1) := by decide +kernel
theorem dX11_undo_33 : decode cX11_undo 33 = .ok (.istore_n 2, 1) := by decide +kernel
theorem dX11_undo_34 : decode cX11_undo 34 = .ok (.iload_n 2, 1) := by decide +kernel
theorem dX11_undo_35 : decode cX11_undo 35 = .ok (.ifCond .eq 85, 3) := by decide +kernel
theorem dX11_undo_38 : decode cX11_undo 38 = .ok (.aload_n 0, 1) := by decide +kernel
theorem dX11_undo_39 : decode cX11_undo 39 = .ok (.invokevirtual 166, 3) := by decide +kernel
theorem dX11_undo_42 : decode cX11_undo 42 = .ok (.ifCond .ne 78, 3) := by decide +kernel
theorem dX11_undo_45 : decode cX11_undo 45 = .ok (.aload_n 0, 1) := by decide +kernel
theorem dX11_undo_46 : decode cX11_undo 46 = .ok (.getfield 7, 3) := by decide +kernel
theorem dX11_undo_49 : decode cX11_undo 49 = .ok (.iconst 1, 1) := by decide +kernel
theorem dX11_undo_50 : decode cX11_undo 50 = .ok (.iaload, 1) := by decide +kernel
theorem dX11_undo_51 : decode cX11_undo 51 = .ok (.aload_n 0, 1) := by decide +kernel
theorem dX11_undo_52 : decode cX11_undo 52 = .ok (.getfield 141, 3) := by decide +kernel
theorem dX11_undo_55 : decode cX11_undo 55 = .ok (.imul, 1) := by decide +kernel
theorem dX11_undo_56 : decode cX11_undo 56 = .ok (.aload_n 0, 1) := by decide +kernel
theorem dX11_undo_57 : decode cX11_undo 57 = .ok (.getfield 144, 3) := by decide +kernel
theorem dX11_undo_60 : decode cX11_undo 60 = .ok (.iadd, 1) := by decide +kernel
theorem dX11_undo_61 : decode cX11_undo 61 = .ok (.istore_n 3, 1) := by decide +kernel
theorem dX11_undo_62 : decode cX11_undo 62 = .ok (.aload_n 0, 1) := by decide +kernel
theorem dX11_undo_63 : decode cX11_undo 63 = .ok (.iload_n 3, 1) := by decide +kernel
theorem dX11_undo_64 : decode cX11_undo 64 = .ok (.invokevirtual 108, 3) := by decide +kernel
theorem dX11_undo_67 : decode cX11_undo 67 = .ok (.ifCond .ne 17, 3) := by decide +kernel
theorem dX11_undo_70 : decode cX11_undo 70 = .ok (.aload_n 0, 1) := by decide +kernel
theorem dX11_undo_71 : decode cX11_undo 71 = .ok (.getfield 135, 3) := by decide +kernel
theorem dX11_undo_74 : decode cX11_undo 74 = .ok (.sipush 5000, 3) := by decide +kernel
theorem dX11_undo_77 : decode cX11_undo 77 = .ok (.if_icmp .ge 7, 3) := by decide +kernel
theorem dX11_undo_80 : decode cX11_undo 80 = .ok (.iconst 1, 1) := by decide +kernel
theorem dX11_undo_81 : decode cX11_undo 81 = .ok (.goto 4, 3) := by decide +kernel
theorem dX11_undo_84 : decode cX11_undo 84 = .ok (.iconst 0, 1) := by decide +kernel
theorem dX11_undo_85 : decode cX11_undo 85 = .ok (.istore_n 2, 1) := by decide +kernel
theorem dX11_undo_86 : decode cX11_undo 86 = .ok (.iload_n 2, 1) := by decide +kernel
theorem dX11_undo_87 : decode cX11_undo 87 = .ok (.ifCond .eq 30, 3) := by decide +kernel
theorem dX11_undo_90 : decode cX11_undo 90 = .ok (.aload_n 0, 1) := by decide +kernel
theorem dX11_undo_91 : decode cX11_undo 91 = .ok (.dup, 1) := by decide +kernel
theorem dX11_undo_92 : decode cX11_undo 92 = .ok (.getfield 135, 3) := by decide +kernel
theorem dX11_undo_95 : decode cX11_undo 95 = .ok (.iconst 1, 1) := by decide +kernel
theorem dX11_undo_96 : decode cX11_undo 96 = .ok (.iadd, 1) := by decide +kernel
theorem dX11_undo_97 : decode cX11_undo 97 = .ok (.putfield 135, 3) := by decide +kernel
theorem dX11_undo_100 : decode cX11_undo 100 = .ok (.aload_n 0, 1) := by decide +kernel
theorem dX11_undo_101 : decode cX11_undo 101 = .ok (.iload_n 3, 1) := by decide +kernel
theorem dX11_undo_102 : decode cX11_undo 102 = .ok (.aload_n 0, 1) := by decide +kernel
theorem dX11_undo_103 : decode cX11_undo 103 = .ok (.getfield 147, 3) := by decide +kernel
theorem dX11_undo_106 : decode cX11_undo 106 = .ok (.iconst 2, 1) := by decide +kernel
theorem dX11_undo_107 : decode cX11_undo 107 = .ok (.iadd, 1) := by decide +kernel
theorem dX11_undo_108 : decode cX11_undo 108 = .ok (.iconst 4, 1) := by decide +kernel
theorem dX11_undo_109 : decode cX11_undo 109 = .ok (.irem, 1) := by decide +kernel
theorem dX11_undo_110 : decode cX11_undo 110 = .ok (.invokevirtual 196, 3) := by decide +kernel
theorem dX11_undo_113 : decode cX11_undo 113 = .ok (.aload_n 0, 1) := by decide +kernel
theorem dX11_undo_114 : decode cX11_undo 114 = .ok (.invokevirtual 173, 3) := by decide +kernel
theorem dX11_undo_117 : decode cX11_undo 117 = .ok (.goto (-83), 3) := by decide +kernel
theorem dX11_undo_120 : decode cX11_undo 120 = .ok (.iload_n 2, 1) := by decide +kernel
theorem dX11_undo_121 : decode cX11_undo 121 = .ok (.ifCond .ne 22, 3) := by decide +kernel
theorem dX11_undo_124 : decode cX11_undo 124 = .ok (.aload_n 0, 1) := by decide +kernel
theorem dX11_undo_125 : decode cX11_undo 125 = .ok (.aload_n 0, 1) := by decide +kernel
theorem dX11_undo_126 : decode cX11_undo 126 = .ok (.getfield 16, 3) := by decide +kernel
theorem dX11_undo_129 : decode cX11_undo 129 = .ok (.aload_n 0, 1) := by decide +kernel
theorem dX11_undo_130 : decode cX11_undo 130 = .ok (.getfield 7, 3) := by decide +kernel
theorem dX11_undo_133 : decode cX11_undo 133 = .ok (.invokevirtual 188, 3) := by decide +kernel
theorem dX11_undo_136 : decode cX11_undo 136 = .ok (.aload_n 0, 1) := by decide +kernel
theorem dX11_undo_137 : decode cX11_undo 137 = .ok (.ldc 128, 2) := by decide +kernel
theorem dX11_undo_139 : decode cX11_undo 139 = .ok (.invokevirtual 79, 3) := by decide +kernel
theorem dX11_undo_142 : decode cX11_undo 142 = .ok (.ireturn, 1) := by decide +kernel
theorem dX11_undo_143 : decode cX11_undo 143 = .ok (.aload_n 0, 1) := by decide +kernel
theorem dX11_undo_144 : decode cX11_undo 144 = .ok (.invokevirtual 176, 3) := by decide +kernel
theorem dX11_undo_147 : decode cX11_undo 147 = .ok (.ireturn, 1) := by decide +kernel
theorem dX11_byteAt_0 : decode cX11_byteAt 0 = .ok (.iload_n 1, 1) := by decide +kernel
theorem dX11_byteAt_1 : decode cX11_byteAt 1 = .ok (.aload_n 0, 1) := by decide +kernel
theorem dX11_byteAt_2 : decode cX11_byteAt 2 = .ok (.getfield 200, 3) := by decide +kernel
theorem dX11_byteAt_5 : decode cX11_byteAt 5 = .ok (.if_icmp .ge 24, 3) := by decide +kernel
theorem dX11_byteAt_8 : decode cX11_byteAt 8 = .ok (.aload_n 0, 1) := by decide +kernel
theorem dX11_byteAt_9 : decode cX11_byteAt 9 = .ok (.getfield 7, 3) := by decide +kernel
theorem dX11_byteAt_12 : decode cX11_byteAt 12 = .ok (.sipush 205, 3) := by decide +kernel
theorem dX11_byteAt_15 : decode cX11_byteAt 15 = .ok (.bipush 50, 2) := by decide +kernel
theorem dX11_byteAt_17 : decode cX11_byteAt 17 = .ok (.aload_n 0, 1) := by decide +kernel
theorem dX11_byteAt_18 : decode cX11_byteAt 18 = .ok (.getfield 203, 3) := by decide +kernel
theorem dX11_byteAt_21 : decode cX11_byteAt 21 = .ok (.imul, 1) := by decide +kernel
theorem dX11_byteAt_22 : decode cX11_byteAt 22 = .ok (.iadd, 1) := by decide +kernel
theorem dX11_byteAt_23 : decode cX11_byteAt 23 = .ok (.iload_n 1, 1) := by decide +kernel
theorem dX11_byteAt_24 : decode cX11_byteAt 24 = .ok (.iadd, 1) := by decide +kernel
theorem dX11_byteAt_25 : decode cX11_byteAt 25 = .ok (.iaload, 1) := by decide +kernel
theorem dX11_byteAt_26 : decode cX11_byteAt 26 = .ok (.goto 4, 3) := by decide +kernel
theorem dX11_byteAt_29 : decode cX11_byteAt 29 = .ok (.iconst (-1), 1) := by decide +kernel
theorem dX11_byteAt_30 : decode cX11_byteAt 30 = .ok (.ireturn, 1) := by decide +kernel
theorem dX11_isDigit_0 : decode cX11_isDigit 0 = .ok (.iload_n 0, 1) := by decide +kernel
theorem dX11_isDigit_1 : decode cX11_isDigit 1 = .ok (.bipush 48, 2) := by decide +kernel
theorem dX11_isDigit_3 : decode cX11_isDigit 3 = .ok (.bipush 57, 2) := by decide +kernel
theorem dX11_isDigit_5 : decode cX11_isDigit 5 = .ok (.invokestatic 71, 3) := by decide +kernel
theorem dX11_isDigit_8 : decode cX11_isDigit 8 = .ok (.ireturn, 1) := by decide +kernel
theorem dX11_fails_0 : decode cX11_fails 0 = .ok (.aload_n 0, 1) := by decide +kernel
theorem dX11_fails_1 : decode cX11_fails 1 = .ok (.iconst 0, 1) := by decide +kernel
theorem dX11_fails_2 : decode cX11_fails 2 = .ok (.putfield 206, 3) := by decide +kernel
theorem dX11_fails_5 : decode cX11_fails 5 = .ok (.iconst 0, 1) := by decide +kernel
theorem dX11_fails_6 : decode cX11_fails 6 = .ok (.ireturn, 1) := by decide +kernel
theorem dX11_number_0 : decode cX11_number 0 = .ok (.iconst 0, 1) := by decide +kernel
theorem dX11_number_1 : decode cX11_number 1 = .ok (.istore_n 1, 1) := by decide +kernel
theorem dX11_number_2 : decode cX11_number 2 = .ok (.iconst 0, 1) := by decide +kernel
theorem dX11_number_3 : decode cX11_number 3 = .ok (.istore_n 2, 1) := by decide +kernel
theorem dX11_number_4 : decode cX11_number 4 = .ok (.iload_n 2, 1) := by decide +kernel
theorem dX11_number_5 : decode cX11_number 5 = .ok (.iconst 4, 1) := by decide +kernel
theorem dX11_number_6 : decode cX11_number 6 = .ok (.if_icmp .ge 50, 3) := by decide +kernel
theorem dX11_number_9 : decode cX11_number 9 = .ok (.aload_n 0, 1) := by decide +kernel
theorem dX11_number_10 : decode cX11_number 10 = .ok (.aload_n 0, 1) := by decide +kernel
theorem dX11_number_11 : decode cX11_number 11 = .ok (.getfield 209, 3) := by decide +kernel
theorem dX11_number_14 : decode cX11_number 14 = .ok (.invokevirtual 212, 3) := by decide +kernel
theorem dX11_number_17 : decode cX11_number 17 = .ok (.invokestatic 215, 3) := by decide +kernel
theorem dX11_number_20 : decode cX11_number 20 = .ok (.ifCond .eq 36, 3) := by decide +kernel
theorem dX11_number_23 : decode cX11_number 23 = .ok (.bipush 10, 2) := by decide +kernel
theorem dX11_number_25 : decode cX11_number 25 = .ok (.iload_n 1, 1) := by decide +kernel
theorem dX11_number_26 : decode cX11_number 26 = .ok (.imul, 1) := by decide +kernel
theorem dX11_number_27 : decode cX11_number 27 = .ok (.aload_n 0, 1) := by decide +kernel
theorem dX11_number_28 : decode cX11_number 28 = .ok (.aload_n 0, 1) := by decide +kernel
theorem dX11_number_29 : decode cX11_number 29 = .ok (.getfield 209, 3) := by decide +kernel
theorem dX11_number_32 : decode cX11_number 32 = .ok (.invokevirtual 212, 3) := by decide +kernel
theorem dX11_number_35 : decode cX11_number 35 = .ok (.iadd, 1) := by decide +kernel
theorem dX11_number_36 : decode cX11_number 36 = .ok (.bipush 48, 2) := by decide +kernel
theorem dX11_number_38 : decode cX11_number 38 = .ok (.isub, 1) := by decide +kernel
theorem dX11_number_39 : decode cX11_number 39 = .ok (.istore_n 1, 1) := by decide +kernel
theorem dX11_number_40 : decode cX11_number 40 = .ok (.aload_n 0, 1) := by decide +kernel
theorem dX11_number_41 : decode cX11_number 41 = .ok (.dup, 1) := by decide +kernel
theorem dX11_number_42 : decode cX11_number 42 = .ok (.getfield 209, 3) := by decide +kernel
theorem dX11_number_45 : decode cX11_number 45 = .ok (.iconst 1, 1) := by decide +kernel
theorem dX11_number_46 : decode cX11_number 46 = .ok (.iadd, 1) := by decide +kernel
theorem dX11_number_47 : decode cX11_number 47 = .ok (.putfield 209, 3) := by decide +kernel
theorem dX11_number_50 : decode cX11_number 50 = .ok (.iinc 2 1, 3) := by decide +kernel
theorem dX11_number_53 : decode cX11_number 53 = .ok (.goto (-49), 3) := by decide +kernel
theorem dX11_number_56 : decode cX11_number 56 = .ok (.iload_n 1, 1) := by decide +kernel
theorem dX11_number_57 : decode cX11_number 57 = .ok (.ireturn, 1) := by decide +kernel
theorem dX11_named_0 : decode cX11_named 0 = .ok (.iload_n 1, 1) := by decide +kernel
theorem dX11_named_1 : decode cX11_named 1 = .ok (.aload_n 0, 1) := by decide +kernel
theorem dX11_named_2 : decode cX11_named 2 = .ok (.getfield 203, 3) := by decide +kernel
theorem dX11_named_5 : decode cX11_named 5 = .ok (.ifCond .ne 8, 3) := by decide +kernel
theorem dX11_named_8 : decode cX11_named 8 = .ok (.bipush 114, 2) := by decide +kernel
theorem dX11_named_10 : decode cX11_named 10 = .ok (.goto 5, 3) := by decide +kernel
theorem dX11_named_13 : decode cX11_named 13 = .ok (.bipush 105, 2) := by decide +kernel
theorem dX11_named_15 : decode cX11_named 15 = .ok (.if_icmp .ne 7, 3) := by decide +kernel
theorem dX11_named_18 : decode cX11_named 18 = .ok (.iconst 1, 1) := by decide +kernel
theorem dX11_named_19 : decode cX11_named 19 = .ok (.goto 4, 3) := by decide +kernel
theorem dX11_named_22 : decode cX11_named 22 = .ok (.iconst 0, 1) := by decide +kernel
theorem dX11_named_23 : decode cX11_named 23 = .ok (.istore_n 2, 1) := by decide +kernel
theorem dX11_named_24 : decode cX11_named 24 = .ok (.iload_n 1, 1) := by decide +kernel
theorem dX11_named_25 : decode cX11_named 25 = .ok (.aload_n 0, 1) := by decide +kernel
theorem dX11_named_26 : decode cX11_named 26 = .ok (.getfield 203, 3) := by decide +kernel
theorem dX11_named_29 : decode cX11_named 29 = .ok (.ifCond .ne 8, 3) := by decide +kernel
theorem dX11_named_32 : decode cX11_named 32 = .ok (.bipush 99, 2) := by decide +kernel
theorem dX11_named_34 : decode cX11_named 34 = .ok (.goto 5, 3) := by decide +kernel
theorem dX11_named_37 : decode cX11_named 37 = .ok (.bipush 111, 2) := by decide +kernel
theorem dX11_named_39 : decode cX11_named 39 = .ok (.if_icmp .ne 7, 3) := by decide +kernel
theorem dX11_named_42 : decode cX11_named 42 = .ok (.iconst 1, 1) := by decide +kernel
theorem dX11_named_43 : decode cX11_named 43 = .ok (.goto 4, 3) := by decide +kernel
theorem dX11_named_46 : decode cX11_named 46 = .ok (.iconst 0, 1) := by decide +kernel
theorem dX11_named_47 : decode cX11_named 47 = .ok (.istore_n 3, 1) := by decide +kernel
theorem dX11_named_48 : decode cX11_named 48 = .ok (.iload_n 1, 1) := by decide +kernel
theorem dX11_named_49 : decode cX11_named 49 = .ok (.aload_n 0, 1) := by decide +kernel
theorem dX11_named_50 : decode cX11_named 50 = .ok (.getfield 203, 3) := by decide +kernel
theorem dX11_named_53 : decode cX11_named 53 = .ok (.ifCond .ne 8, 3) := by decide +kernel
theorem dX11_named_56 : decode cX11_named 56 = .ok (.bipush 109, 2) := by decide +kernel
theorem dX11_named_58 : decode cX11_named 58 = .ok (.goto 5, 3) := by decide +kernel
theorem dX11_named_61 : decode cX11_named 61 = .ok (.bipush 116, 2) := by decide +kernel
theorem dX11_named_63 : decode cX11_named 63 = .ok (.if_icmp .ne 7, 3) := by decide +kernel
theorem dX11_named_66 : decode cX11_named 66 = .ok (.iconst 1, 1) := by decide +kernel
theorem dX11_named_67 : decode cX11_named 67 = .ok (.goto 4, 3) := by decide +kernel
theorem dX11_named_70 : decode cX11_named 70 = .ok (.iconst 0, 1) := by decide +kernel
theorem dX11_named_71 : decode cX11_named 71 = .ok (.istore 4, 2) := by decide +kernel
theorem dX11_named_73 : decode cX11_named 73 = .ok (.iload_n 2, 1) := by decide +kernel
theorem dX11_named_74 : decode cX11_named 74 = .ok (.ifCond .ne 17, 3) := by decide +kernel
theorem dX11_named_77 : decode cX11_named 77 = .ok (.iload_n 3, 1) := by decide +kernel
theorem dX11_named_78 : decode cX11_named 78 = .ok (.ifCond .ne 13, 3) := by decide +kernel
theorem dX11_named_81 : decode cX11_named 81 = .ok (.iload 4, 2) := by decide +kernel
theorem dX11_named_83 : decode cX11_named 83 = .ok (.ifCond .ne 8, 3) := by decide +kernel
theorem dX11_named_86 : decode cX11_named 86 = .ok (.aload_n 0, 1) := by decide +kernel
theorem dX11_named_87 : decode cX11_named 87 = .ok (.invokevirtual 218, 3) := by decide +kernel
theorem dX11_named_90 : decode cX11_named 90 = .ok (.ireturn, 1) := by decide +kernel
theorem dX11_named_91 : decode cX11_named 91 = .ok (.aload_n 0, 1) := by decide +kernel
theorem dX11_named_92 : decode cX11_named 92 = .ok (.dup, 1) := by decide +kernel
theorem dX11_named_93 : decode cX11_named 93 = .ok (.getfield 209, 3) := by decide +kernel
theorem dX11_named_96 : decode cX11_named 96 = .ok (.iconst 1, 1) := by decide +kernel
theorem dX11_named_97 : decode cX11_named 97 = .ok (.iadd, 1) := by decide +kernel
theorem dX11_named_98 : decode cX11_named 98 = .ok (.putfield 209, 3) := by decide +kernel
theorem dX11_named_101 : decode cX11_named 101 = .ok (.iload_n 2, 1) := by decide +kernel
theorem dX11_named_102 : decode cX11_named 102 = .ok (.ifCond .eq 10, 3) := by decide +kernel
theorem dX11_named_105 : decode cX11_named 105 = .ok (.aload_n 0, 1) := by decide +kernel
theorem dX11_named_106 : decode cX11_named 106 = .ok (.getfield 221, 3) := by decide +kernel
theorem dX11_named_109 : decode cX11_named 109 = .ok (.goto 18, 3) := by decide +kernel
theorem dX11_named_112 : decode cX11_named 112 = .ok (.iload_n 3, 1) := by decide +kernel
theorem dX11_named_113 : decode cX11_named 113 = .ok (.ifCond .eq 10, 3) := by decide +kernel
theorem dX11_named_116 : decode cX11_named 116 = .ok (.aload_n 0, 1) := by decide +kernel
theorem dX11_named_117 : decode cX11_named 117 = .ok (.getfield 224, 3) := by decide +kernel
theorem dX11_named_120 : decode cX11_named 120 = .ok (.goto 7, 3) := by decide +kernel
theorem dX11_named_123 : decode cX11_named 123 = .ok (.aload_n 0, 1) := by decide +kernel
theorem dX11_named_124 : decode cX11_named 124 = .ok (.getfield 227, 3) := by decide +kernel
theorem dX11_named_127 : decode cX11_named 127 = .ok (.ireturn, 1) := by decide +kernel
theorem dX11_factor_0 : decode cX11_factor 0 = .ok (.aload_n 0, 1) := by decide +kernel
theorem dX11_factor_1 : decode cX11_factor 1 = .ok (.aload_n 0, 1) := by decide +kernel
theorem dX11_factor_2 : decode cX11_factor 2 = .ok (.getfield 209, 3) := by decide +kernel
theorem dX11_factor_5 : decode cX11_factor 5 = .ok (.invokevirtual 212, 3) := by decide +kernel
theorem dX11_factor_8 : decode cX11_factor 8 = .ok (.istore_n 1, 1) := by decide +kernel
theorem dX11_factor_9 : decode cX11_factor 9 = .ok (.iload_n 1, 1) := by decide +kernel
theorem dX11_factor_10 : decode cX11_factor 10 = .ok (.invokestatic 215, 3) := by decide +kernel
theorem dX11_factor_13 : decode cX11_factor 13 = .ok (.ifCond .eq 8, 3) := by decide +kernel
theorem dX11_factor_16 : decode cX11_factor 16 = .ok (.aload_n 0, 1) := by decide +kernel
theorem dX11_factor_17 : decode cX11_factor 17 = .ok (.invokevirtual 230, 3) := by decide +kernel
theorem dX11_factor_20 : decode cX11_factor 20 = .ok (.ireturn, 1) := by decide +kernel
theorem dX11_factor_21 : decode cX11_factor 21 = .ok (.iload_n 1, 1) := by decide +kernel
theorem dX11_factor_22 : decode cX11_factor 22 = .ok (.bipush 33, 2) := by decide +kernel
theorem dX11_factor_24 : decode cX11_factor 24 = .ok (.if_icmp .eq 15, 3) := by decide +kernel
theorem dX11_factor_27 : decode cX11_factor 27 = .ok (.iload_n 1, 1) := by decide +kernel
theorem dX11_factor_28 : decode cX11_factor 28 = .ok (.bipush 40, 2) := by decide +kernel
theorem dX11_factor_30 : decode cX11_factor 30 = .ok (.if_icmp .eq 9, 3) := by decide +kernel
theorem dX11_factor_33 : decode cX11_factor 33 = .ok (.aload_n 0, 1) := by decide +kernel
theorem dX11_factor_34 : decode cX11_factor 34 = .ok (.iload_n 1, 1) := by decide +kernel
theorem dX11_factor_35 : decode cX11_factor 35 = .ok (.invokevirtual 233, 3) := by decide +kernel
theorem dX11_factor_38 : decode cX11_factor 38 = .ok (.ireturn, 1) := by decide +kernel
theorem dX11_factor_39 : decode cX11_factor 39 = .ok (.aload_n 0, 1) := by decide +kernel
theorem dX11_factor_40 : decode cX11_factor 40 = .ok (.getfield 236, 3) := by decide +kernel
theorem dX11_factor_43 : decode cX11_factor 43 = .ok (.iconst 5, 1) := by decide +kernel
theorem dX11_factor_44 : decode cX11_factor 44 = .ok (.if_icmp .ne 8, 3) := by decide +kernel
theorem dX11_factor_47 : decode cX11_factor 47 = .ok (.aload_n 0, 1) := by decide +kernel
theorem dX11_factor_48 : decode cX11_factor 48 = .ok (.invokevirtual 218, 3) := by decide +kernel
theorem dX11_factor_51 : decode cX11_factor 51 = .ok (.ireturn, 1) := by decide +kernel
theorem dX11_factor_52 : decode cX11_factor 52 = .ok (.aload_n 0, 1) := by decide +kernel
theorem dX11_factor_53 : decode cX11_factor 53 = .ok (.dup, 1) := by decide +kernel
theorem dX11_factor_54 : decode cX11_factor 54 = .ok (.getfield 236, 3) := by decide +kernel
theorem dX11_factor_57 : decode cX11_factor 57 = .ok (.iconst 1, 1) := by decide +kernel
theorem dX11_factor_58 : decode cX11_factor 58 = .ok (.iadd, 1) := by decide +kernel
theorem dX11_factor_59 : decode cX11_factor 59 = .ok (.putfield 236, 3) := by decide +kernel
theorem dX11_factor_62 : decode cX11_factor 62 = .ok (.aload_n 0, 1) := by decide +kernel
theorem dX11_factor_63 : decode cX11_factor 63 = .ok (.dup, 1) := by decide +kernel
theorem dX11_factor_64 : decode cX11_factor 64 = .ok (.getfield 209, 3) := by decide +kernel
theorem dX11_factor_67 : decode cX11_factor 67 = .ok (.iconst 1, 1) := by decide +kernel
theorem dX11_factor_68 : decode cX11_factor 68 = .ok (.iadd, 1) := by decide +kernel
theorem dX11_factor_69 : decode cX11_factor 69 = .ok (.putfield 209, 3) := by decide +kernel
theorem dX11_factor_72 : decode cX11_factor 72 = .ok (.iload_n 1, 1) := by decide +kernel
theorem dX11_factor_73 : decode cX11_factor 73 = .ok (.bipush 33, 2) := by decide +kernel
theorem dX11_factor_75 : decode cX11_factor 75 = .ok (.if_icmp .ne 10, 3) := by decide +kernel
theorem dX11_factor_78 : decode cX11_factor 78 = .ok (.aload_n 0, 1) := by decide +kernel
theorem dX11_factor_79 : decode cX11_factor 79 = .ok (.invokevirtual 239, 3) := by decide +kernel
theorem dX11_factor_82 : decode cX11_factor 82 = .ok (.goto 7, 3) := by decide +kernel
theorem dX11_factor_85 : decode cX11_factor 85 = .ok (.aload_n 0, 1) := by decide +kernel
theorem dX11_factor_86 : decode cX11_factor 86 = .ok (.invokevirtual 242, 3) := by decide +kernel
theorem dX11_factor_89 : decode cX11_factor 89 = .ok (.istore_n 2, 1) := by decide +kernel
theorem dX11_factor_90 : decode cX11_factor 90 = .ok (.aload_n 0, 1) := by decide +kernel
theorem dX11_factor_91 : decode cX11_factor 91 = .ok (.dup, 1) := by decide +kernel
theorem dX11_factor_92 : decode cX11_factor 92 = .ok (.getfield 236, 3) := by decide +kernel
theorem dX11_factor_95 : decode cX11_factor 95 = .ok (.iconst 1, 1) := by decide +kernel
theorem dX11_factor_96 : decode cX11_factor 96 = .ok (.isub, 1) := by decide +kernel
theorem dX11_factor_97 : decode cX11_factor 97 = .ok (.putfield 236, 3) := by decide +kernel
theorem dX11_factor_100 : decode cX11_factor 100 = .ok (.iload_n 1, 1) := by decide +kernel
theorem dX11_factor_101 : decode cX11_factor 101 = .ok (.bipush 33, 2) := by decide +kernel
theorem dX11_factor_103 : decode cX11_factor 103 = .ok (.if_icmp .ne 13, 3) := by decide +kernel
theorem dX11_factor_106 : decode cX11_factor 106 = .ok (.iload_n 2, 1) := by decide +kernel
theorem dX11_factor_107 : decode cX11_factor 107 = .ok (.ifCond .ne 7, 3) := by decide +kernel
theorem dX11_factor_110 : decode cX11_factor 110 = .ok (.iconst 1, 1) := by decide +kernel
theorem dX11_factor_111 : decode cX11_factor 111 = .ok (.goto 4, 3) := by decide +kernel
theorem dX11_factor_114 : decode cX11_factor 114 = .ok (.iconst 0, 1) := by decide +kernel
theorem dX11_factor_115 : decode cX11_factor 115 = .ok (.ireturn, 1) := by decide +kernel
theorem dX11_factor_116 : decode cX11_factor 116 = .ok (.aload_n 0, 1) := by decide +kernel
theorem dX11_factor_117 : decode cX11_factor 117 = .ok (.getfield 206, 3) := by decide +kernel
theorem dX11_factor_120 : decode cX11_factor 120 = .ok (.ifCond .eq 28, 3) := by decide +kernel
theorem dX11_factor_123 : decode cX11_factor 123 = .ok (.aload_n 0, 1) := by decide +kernel
theorem dX11_factor_124 : decode cX11_factor 124 = .ok (.aload_n 0, 1) := by decide +kernel
theorem dX11_factor_125 : decode cX11_factor 125 = .ok (.getfield 209, 3) := by decide +kernel
theorem dX11_factor_128 : decode cX11_factor 128 = .ok (.invokevirtual 212, 3) := by decide +kernel
theorem dX11_factor_131 : decode cX11_factor 131 = .ok (.bipush 41, 2) := by decide +kernel
theorem dX11_factor_133 : decode cX11_factor 133 = .ok (.if_icmp .ne 15, 3) := by decide +kernel
theorem dX11_factor_136 : decode cX11_factor 136 = .ok (.aload_n 0, 1) := by decide +kernel
theorem dX11_factor_137 : decode cX11_factor 137 = .ok (.dup, 1) := by decide +kernel
theorem dX11_factor_138 : decode cX11_factor 138 = .ok (.getfield 209, 3) := by decide +kernel
theorem dX11_factor_141 : decode cX11_factor 141 = .ok (.iconst 1, 1) := by decide +kernel
theorem dX11_factor_142 : decode cX11_factor 142 = .ok (.iadd, 1) := by decide +kernel
theorem dX11_factor_143 : decode cX11_factor 143 = .ok (.putfield 209, 3) := by decide +kernel
theorem dX11_factor_146 : decode cX11_factor 146 = .ok (.iload_n 2, 1) := by decide +kernel
theorem dX11_factor_147 : decode cX11_factor 147 = .ok (.ireturn, 1) := by decide +kernel
theorem dX11_factor_148 : decode cX11_factor 148 = .ok (.aload_n 0, 1) := by decide +kernel
theorem dX11_factor_149 : decode cX11_factor 149 = .ok (.invokevirtual 218, 3) := by decide +kernel
theorem dX11_factor_152 : decode cX11_factor 152 = .ok (.ireturn, 1) := by decide +kernel
theorem dX11_product_0 : decode cX11_product 0 = .ok (.aload_n 0, 1) := by decide +kernel
theorem dX11_product_1 : decode cX11_product 1 = .ok (.invokevirtual 239, 3) := by decide +kernel
theorem dX11_product_4 : decode cX11_product 4 = .ok (.istore_n 1, 1) := by decide +kernel
theorem dX11_product_5 : decode cX11_product 5 = .ok (.aload_n 0, 1) := by decide +kernel
theorem dX11_product_6 : decode cX11_product 6 = .ok (.getfield 206, 3) := by decide +kernel
theorem dX11_product_9 : decode cX11_product 9 = .ok (.ifCond .eq 105, 3) := by decide +kernel
theorem dX11_product_12 : decode cX11_product 12 = .ok (.aload_n 0, 1) := by decide +kernel
theorem dX11_product_13 : decode cX11_product 13 = .ok (.aload_n 0, 1) := by decide +kernel
theorem dX11_product_14 : decode cX11_product 14 = .ok (.getfield 209, 3) := by decide +kernel
theorem dX11_product_17 : decode cX11_product 17 = .ok (.invokevirtual 212, 3) := by decide +kernel
theorem dX11_product_20 : decode cX11_product 20 = .ok (.bipush 42, 2) := by decide +kernel
theorem dX11_product_22 : decode cX11_product 22 = .ok (.if_icmp .eq 29, 3) := by decide +kernel
theorem dX11_product_25 : decode cX11_product 25 = .ok (.aload_n 0, 1) := by decide +kernel
theorem dX11_product_26 : decode cX11_product 26 = .ok (.aload_n 0, 1) := by decide +kernel
theorem dX11_product_27 : decode cX11_product 27 = .ok (.getfield 209, 3) := by decide +kernel
theorem dX11_product_30 : decode cX11_product 30 = .ok (.invokevirtual 212, 3) := by decide +kernel
theorem dX11_product_33 : decode cX11_product 33 = .ok (.bipush 47, 2) := by decide +kernel
theorem dX11_product_35 : decode cX11_product 35 = .ok (.if_icmp .eq 16, 3) := by decide +kernel
theorem dX11_product_38 : decode cX11_product 38 = .ok (.aload_n 0, 1) := by decide +kernel
theorem dX11_product_39 : decode cX11_product 39 = .ok (.aload_n 0, 1) := by decide +kernel
theorem dX11_product_40 : decode cX11_product 40 = .ok (.getfield 209, 3) := by decide +kernel
theorem dX11_product_43 : decode cX11_product 43 = .ok (.invokevirtual 212, 3) := by decide +kernel
theorem dX11_product_46 : decode cX11_product 46 = .ok (.bipush 37, 2) := by decide +kernel
theorem dX11_product_48 : decode cX11_product 48 = .ok (.if_icmp .ne 66, 3) := by decide +kernel
theorem dX11_product_51 : decode cX11_product 51 = .ok (.aload_n 0, 1) := by decide +kernel
theorem dX11_product_52 : decode cX11_product 52 = .ok (.aload_n 0, 1) := by decide +kernel
theorem dX11_product_53 : decode cX11_product 53 = .ok (.getfield 209, 3) := by decide +kernel
theorem dX11_product_56 : decode cX11_product 56 = .ok (.invokevirtual 212, 3) := by decide +kernel
theorem dX11_product_59 : decode cX11_product 59 = .ok (.istore_n 2, 1) := by decide +kernel
theorem dX11_product_60 : decode cX11_product 60 = .ok (.aload_n 0, 1) := by decide +kernel
theorem dX11_product_61 : decode cX11_product 61 = .ok (.dup, 1) := by decide +kernel
theorem dX11_product_62 : decode cX11_product 62 = .ok (.getfield 209, 3) := by decide +kernel
theorem dX11_product_65 : decode cX11_product 65 = .ok (.iconst 1, 1) := by decide +kernel
theorem dX11_product_66 : decode cX11_product 66 = .ok (.iadd, 1) := by decide +kernel
theorem dX11_product_67 : decode cX11_product 67 = .ok (.putfield 209, 3) := by decide +kernel
theorem dX11_product_70 : decode cX11_product 70 = .ok (.aload_n 0, 1) := by decide +kernel
theorem dX11_product_71 : decode cX11_product 71 = .ok (.invokevirtual 239, 3) := by decide +kernel
theorem dX11_product_74 : decode cX11_product 74 = .ok (.istore_n 3, 1) := by decide +kernel
theorem dX11_product_75 : decode cX11_product 75 = .ok (.iload_n 2, 1) := by decide +kernel
theorem dX11_product_76 : decode cX11_product 76 = .ok (.bipush 42, 2) := by decide +kernel
theorem dX11_product_78 : decode cX11_product 78 = .ok (.if_icmp .ne 9, 3) := by decide +kernel
theorem dX11_product_81 : decode cX11_product 81 = .ok (.iload_n 1, 1) := by decide +kernel
theorem dX11_product_82 : decode cX11_product 82 = .ok (.iload_n 3, 1) := by decide +kernel
theorem dX11_product_83 : decode cX11_product 83 = .ok (.imul, 1) := by decide +kernel
theorem dX11_product_84 : decode cX11_product 84 = .ok (.goto 26, 3) := by decide +kernel
theorem dX11_product_87 : decode cX11_product 87 = .ok (.iload_n 3, 1) := by decide +kernel
theorem dX11_product_88 : decode cX11_product 88 = .ok (.ifCond .ne 7, 3) := by decide +kernel
theorem dX11_product_91 : decode cX11_product 91 = .ok (.iconst 0, 1) := by decide +kernel
theorem dX11_product_92 : decode cX11_product 92 = .ok (.goto 18, 3) := by decide +kernel
theorem dX11_product_95 : decode cX11_product 95 = .ok (.iload_n 2, 1) := by decide +kernel
theorem dX11_product_96 : decode cX11_product 96 = .ok (.bipush 47, 2) := by decide +kernel
theorem dX11_product_98 : decode cX11_product 98 = .ok (.if_icmp .ne 9, 3) := by decide +kernel
theorem dX11_product_101 : decode cX11_product 101 = .ok (.iload_n 1, 1) := by decide +kernel
theorem dX11_product_102 : decode cX11_product 102 = .ok (.iload_n 3, 1) := by decide +kernel
theorem dX11_product_103 : decode cX11_product 103 = .ok (.idiv, 1) := by decide +kernel
theorem dX11_product_104 : decode cX11_product 104 = .ok (.goto 6, 3) := by decide +kernel
theorem dX11_product_107 : decode cX11_product 107 = .ok (.iload_n 1, 1) := by decide +kernel
theorem dX11_product_108 : decode cX11_product 108 = .ok (.iload_n 3, 1) := by decide +kernel
theorem dX11_product_109 : decode cX11_product 109 = .ok (.irem, 1) := by decide +kernel
theorem dX11_product_110 : decode cX11_product 110 = .ok (.istore_n 1, 1) := by decide +kernel
theorem dX11_product_111 : decode cX11_product 111 = .ok (.goto (-106), 3) := by decide +kernel
theorem dX11_product_114 : decode cX11_product 114 = .ok (.iload_n 1, 1) := by decide +kernel
theorem dX11_product_115 : decode cX11_product 115 = .ok (.ireturn, 1) := by decide +kernel
theorem dX11_sum_0 : decode cX11_sum 0 = .ok (.aload_n 0, 1) := by decide +kernel
theorem dX11_sum_1 : decode cX11_sum 1 = .ok (.invokevirtual 245, 3) := by decide +kernel
theorem dX11_sum_4 : decode cX11_sum 4 = .ok (.istore_n 1, 1) := by decide +kernel
theorem dX11_sum_5 : decode cX11_sum 5 = .ok (.aload_n 0, 1) := by decide +kernel
theorem dX11_sum_6 : decode cX11_sum 6 = .ok (.getfield 206, 3) := by decide +kernel
theorem dX11_sum_9 : decode cX11_sum 9 = .ok (.ifCond .eq 72, 3) := by decide +kernel
theorem dX11_sum_12 : decode cX11_sum 12 = .ok (.aload_n 0, 1) := by decide +kernel
theorem dX11_sum_13 : decode cX11_sum 13 = .ok (.aload_n 0, 1) := by decide +kernel
theorem dX11_sum_14 : decode cX11_sum 14 = .ok (.getfield 209, 3) := by decide +kernel
theorem dX11_sum_17 : decode cX11_sum 17 = .ok (.invokevirtual 212, 3) := by decide +kernel
theorem dX11_sum_20 : decode cX11_sum 20 = .ok (.bipush 43, 2) := by decide +kernel
theorem dX11_sum_22 : decode cX11_sum 22 = .ok (.if_icmp .eq 16, 3) := by decide +kernel
theorem dX11_sum_25 : decode cX11_sum 25 = .ok (.aload_n 0, 1) := by decide +kernel
theorem dX11_sum_26 : decode cX11_sum 26 = .ok (.aload_n 0, 1) := by decide +kernel
theorem dX11_sum_27 : decode cX11_sum 27 = .ok (.getfield 209, 3) := by decide +kernel
theorem dX11_sum_30 : decode cX11_sum 30 = .ok (.invokevirtual 212, 3) := by decide +kernel
theorem dX11_sum_33 : decode cX11_sum 33 = .ok (.bipush 45, 2) := by decide +kernel
theorem dX11_sum_35 : decode cX11_sum 35 = .ok (.if_icmp .ne 46, 3) := by decide +kernel
theorem dX11_sum_38 : decode cX11_sum 38 = .ok (.aload_n 0, 1) := by decide +kernel
theorem dX11_sum_39 : decode cX11_sum 39 = .ok (.aload_n 0, 1) := by decide +kernel
theorem dX11_sum_40 : decode cX11_sum 40 = .ok (.getfield 209, 3) := by decide +kernel
theorem dX11_sum_43 : decode cX11_sum 43 = .ok (.invokevirtual 212, 3) := by decide +kernel
theorem dX11_sum_46 : decode cX11_sum 46 = .ok (.istore_n 2, 1) := by decide +kernel
theorem dX11_sum_47 : decode cX11_sum 47 = .ok (.aload_n 0, 1) := by decide +kernel
theorem dX11_sum_48 : decode cX11_sum 48 = .ok (.dup, 1) := by decide +kernel
theorem dX11_sum_49 : decode cX11_sum 49 = .ok (.getfield 209, 3) := by decide +kernel
theorem dX11_sum_52 : decode cX11_sum 52 = .ok (.iconst 1, 1) := by decide +kernel
theorem dX11_sum_53 : decode cX11_sum 53 = .ok (.iadd, 1) := by decide +kernel
theorem dX11_sum_54 : decode cX11_sum 54 = .ok (.putfield 209, 3) := by decide +kernel
theorem dX11_sum_57 : decode cX11_sum 57 = .ok (.aload_n 0, 1) := by decide +kernel
theorem dX11_sum_58 : decode cX11_sum 58 = .ok (.invokevirtual 245, 3) := by decide +kernel
theorem dX11_sum_61 : decode cX11_sum 61 = .ok (.istore_n 3, 1) := by decide +kernel
theorem dX11_sum_62 : decode cX11_sum 62 = .ok (.iload_n 2, 1) := by decide +kernel
theorem dX11_sum_63 : decode cX11_sum 63 = .ok (.bipush 43, 2) := by decide +kernel
theorem dX11_sum_65 : decode cX11_sum 65 = .ok (.if_icmp .ne 9, 3) := by decide +kernel
theorem dX11_sum_68 : decode cX11_sum 68 = .ok (.iload_n 1, 1) := by decide +kernel
theorem dX11_sum_69 : decode cX11_sum 69 = .ok (.iload_n 3, 1) := by decide +kernel
theorem dX11_sum_70 : decode cX11_sum 70 = .ok (.iadd, 1) := by decide +kernel
theorem dX11_sum_71 : decode cX11_sum 71 = .ok (.goto 6, 3) := by decide +kernel
theorem dX11_sum_74 : decode cX11_sum 74 = .ok (.iload_n 1, 1) := by decide +kernel
theorem dX11_sum_75 : decode cX11_sum 75 = .ok (.iload_n 3, 1) := by decide +kernel
theorem dX11_sum_76 : decode cX11_sum 76 = .ok (.isub, 1) := by decide +kernel
theorem dX11_sum_77 : decode cX11_sum 77 = .ok (.istore_n 1, 1) := by decide +kernel
theorem dX11_sum_78 : decode cX11_sum 78 = .ok (.goto (-73), 3) := by decide +kernel
theorem dX11_sum_81 : decode cX11_sum 81 = .ok (.iload_n 1, 1) := by decide +kernel
theorem dX11_sum_82 : decode cX11_sum 82 = .ok (.ireturn, 1) := by decide +kernel
theorem dX11_compared_0 : decode cX11_compared 0 = .ok (.aload_n 0, 1) := by decide +kernel
theorem dX11_compared_1 : decode cX11_compared 1 = .ok (.invokevirtual 248, 3) := by decide +kernel
theorem dX11_compared_4 : decode cX11_compared 4 = .ok (.istore_n 1, 1) := by decide +kernel
theorem dX11_compared_5 : decode cX11_compared 5 = .ok (.aload_n 0, 1) := by decide +kernel
theorem dX11_compared_6 : decode cX11_compared 6 = .ok (.getfield 206, 3) := by decide +kernel
theorem dX11_compared_9 : decode cX11_compared 9 = .ok (.ifCond .eq 14, 3) := by decide +kernel
theorem dX11_compared_12 : decode cX11_compared 12 = .ok (.aload_n 0, 1) := by decide +kernel
theorem dX11_compared_13 : decode cX11_compared 13 = .ok (.aload_n 0, 1) := by decide +kernel
theorem dX11_compared_14 : decode cX11_compared 14 = .ok (.getfield 209, 3) := by decide +kernel
theorem dX11_compared_17 : decode cX11_compared 17 = .ok (.invokevirtual 212, 3) := by decide +kernel
theorem dX11_compared_20 : decode cX11_compared 20 = .ok (.goto 4, 3) := by decide +kernel
theorem dX11_compared_23 : decode cX11_compared 23 = .ok (.iconst (-1), 1) := by decide +kernel
theorem dX11_compared_24 : decode cX11_compared 24 = .ok (.istore_n 2, 1) := by decide +kernel
theorem dX11_compared_25 : decode cX11_compared 25 = .ok (.iload_n 2, 1) := by decide +kernel
theorem dX11_compared_26 : decode cX11_compared 26 = .ok (.bipush 60, 2) := by decide +kernel
theorem dX11_compared_28 : decode cX11_compared 28 = .ok (.if_icmp .eq 17, 3) := by decide +kernel
theorem dX11_compared_31 : decode cX11_compared 31 = .ok (.iload_n 2, 1) := by decide +kernel
theorem dX11_compared_32 : decode cX11_compared 32 = .ok (.bipush 61, 2) := by decide +kernel
theorem dX11_compared_34 : decode cX11_compared 34 = .ok (.if_icmp .eq 11, 3) := by decide +kernel
theorem dX11_compared_37 : decode cX11_compared 37 = .ok (.iload_n 2, 1) := by decide +kernel
theorem dX11_compared_38 : decode cX11_compared 38 = .ok (.bipush 62, 2) := by decide +kernel
theorem dX11_compared_40 : decode cX11_compared 40 = .ok (.if_icmp .eq 5, 3) := by decide +kernel
theorem dX11_compared_43 : decode cX11_compared 43 = .ok (.iload_n 1, 1) := by decide +kernel
theorem dX11_compared_44 : decode cX11_compared 44 = .ok (.ireturn, 1) := by decide +kernel
theorem dX11_compared_45 : decode cX11_compared 45 = .ok (.aload_n 0, 1) := by decide +kernel
theorem dX11_compared_46 : decode cX11_compared 46 = .ok (.dup, 1) := by decide +kernel
theorem dX11_compared_47 : decode cX11_compared 47 = .ok (.getfield 209, 3) := by decide +kernel
theorem dX11_compared_50 : decode cX11_compared 50 = .ok (.iconst 1, 1) := by decide +kernel
theorem dX11_compared_51 : decode cX11_compared 51 = .ok (.iadd, 1) := by decide +kernel
theorem dX11_compared_52 : decode cX11_compared 52 = .ok (.putfield 209, 3) := by decide +kernel
theorem dX11_compared_55 : decode cX11_compared 55 = .ok (.aload_n 0, 1) := by decide +kernel
theorem dX11_compared_56 : decode cX11_compared 56 = .ok (.invokevirtual 248, 3) := by decide +kernel
theorem dX11_compared_59 : decode cX11_compared 59 = .ok (.istore_n 3, 1) := by decide +kernel
theorem dX11_compared_60 : decode cX11_compared 60 = .ok (.iload_n 2, 1) := by decide +kernel
theorem dX11_compared_61 : decode cX11_compared 61 = .ok (.bipush 60, 2) := by decide +kernel
theorem dX11_compared_63 : decode cX11_compared 63 = .ok (.if_icmp .ne 16, 3) := by decide +kernel
theorem dX11_compared_66 : decode cX11_compared 66 = .ok (.iload_n 1, 1) := by decide +kernel
theorem dX11_compared_67 : decode cX11_compared 67 = .ok (.iload_n 3, 1) := by decide +kernel
theorem dX11_compared_68 : decode cX11_compared 68 = .ok (.if_icmp .ge 7, 3) := by decide +kernel
theorem dX11_compared_71 : decode cX11_compared 71 = .ok (.iconst 1, 1) := by decide +kernel
theorem dX11_compared_72 : decode cX11_compared 72 = .ok (.goto 36, 3) := by decide +kernel
theorem dX11_compared_75 : decode cX11_compared 75 = .ok (.iconst 0, 1) := by decide +kernel
theorem dX11_compared_76 : decode cX11_compared 76 = .ok (.goto 32, 3) := by decide +kernel
theorem dX11_compared_79 : decode cX11_compared 79 = .ok (.iload_n 2, 1) := by decide +kernel
theorem dX11_compared_80 : decode cX11_compared 80 = .ok (.bipush 61, 2) := by decide +kernel
theorem dX11_compared_82 : decode cX11_compared 82 = .ok (.if_icmp .ne 16, 3) := by decide +kernel
theorem dX11_compared_85 : decode cX11_compared 85 = .ok (.iload_n 1, 1) := by decide +kernel
theorem dX11_compared_86 : decode cX11_compared 86 = .ok (.iload_n 3, 1) := by decide +kernel
theorem dX11_compared_87 : decode cX11_compared 87 = .ok (.if_icmp .ne 7, 3) := by decide +kernel
theorem dX11_compared_90 : decode cX11_compared 90 = .ok (.iconst 1, 1) := by decide +kernel
theorem dX11_compared_91 : decode cX11_compared 91 = .ok (.goto 17, 3) := by decide +kernel
theorem dX11_compared_94 : decode cX11_compared 94 = .ok (.iconst 0, 1) := by decide +kernel
theorem dX11_compared_95 : decode cX11_compared 95 = .ok (.goto 13, 3) := by decide +kernel
theorem dX11_compared_98 : decode cX11_compared 98 = .ok (.iload_n 1, 1) := by decide +kernel
theorem dX11_compared_99 : decode cX11_compared 99 = .ok (.iload_n 3, 1) := by decide +kernel
theorem dX11_compared_100 : decode cX11_compared 100 = .ok (.if_icmp .le 7, 3) := by decide +kernel
theorem dX11_compared_103 : decode cX11_compared 103 = .ok (.iconst 1, 1) := by decide +kernel
theorem dX11_compared_104 : decode cX11_compared 104 = .ok (.goto 4, 3) := by decide +kernel
theorem dX11_compared_107 : decode cX11_compared 107 = .ok (.iconst 0, 1) := by decide +kernel
theorem dX11_compared_108 : decode cX11_compared 108 = .ok (.istore 4, 2) := by decide +kernel
theorem dX11_compared_110 : decode cX11_compared 110 = .ok (.iload 4, 2) := by decide +kernel
theorem dX11_compared_112 : decode cX11_compared 112 = .ok (.ifCond .eq 7, 3) := by decide +kernel
theorem dX11_compared_115 : decode cX11_compared 115 = .ok (.iconst 1, 1) := by decide +kernel
theorem dX11_compared_116 : decode cX11_compared 116 = .ok (.goto 4, 3) := by decide +kernel
theorem dX11_compared_119 : decode cX11_compared 119 = .ok (.iconst 0, 1) := by decide +kernel
theorem dX11_compared_120 : decode cX11_compared 120 = .ok (.ireturn, 1) := by decide +kernel
theorem dX11_both_0 : decode cX11_both 0 = .ok (.aload_n 0, 1) := by decide +kernel
theorem dX11_both_1 : decode cX11_both 1 = .ok (.invokevirtual 251, 3) := by decide +kernel
theorem dX11_both_4 : decode cX11_both 4 = .ok (.istore_n 1, 1) := by decide +kernel
theorem dX11_both_5 : decode cX11_both 5 = .ok (.aload_n 0, 1) := by decide +kernel
theorem dX11_both_6 : decode cX11_both 6 = .ok (.getfield 206, 3) := by decide +kernel
theorem dX11_both_9 : decode cX11_both 9 = .ok (.ifCond .eq 48, 3) := by decide +kernel
theorem dX11_both_12 : decode cX11_both 12 = .ok (.aload_n 0, 1) := by decide +kernel
theorem dX11_both_13 : decode cX11_both 13 = .ok (.aload_n 0, 1) := by decide +kernel
theorem dX11_both_14 : decode cX11_both 14 = .ok (.getfield 209, 3) := by decide +kernel
theorem dX11_both_17 : decode cX11_both 17 = .ok (.invokevirtual 212, 3) := by decide +kernel
theorem dX11_both_20 : decode cX11_both 20 = .ok (.bipush 38, 2) := by decide +kernel
theorem dX11_both_22 : decode cX11_both 22 = .ok (.if_icmp .ne 35, 3) := by decide +kernel
theorem dX11_both_25 : decode cX11_both 25 = .ok (.aload_n 0, 1) := by decide +kernel
theorem dX11_both_26 : decode cX11_both 26 = .ok (.dup, 1) := by decide +kernel
theorem dX11_both_27 : decode cX11_both 27 = .ok (.getfield 209, 3) := by decide +kernel
theorem dX11_both_30 : decode cX11_both 30 = .ok (.iconst 1, 1) := by decide +kernel
theorem dX11_both_31 : decode cX11_both 31 = .ok (.iadd, 1) := by decide +kernel
theorem dX11_both_32 : decode cX11_both 32 = .ok (.putfield 209, 3) := by decide +kernel
theorem dX11_both_35 : decode cX11_both 35 = .ok (.aload_n 0, 1) := by decide +kernel
theorem dX11_both_36 : decode cX11_both 36 = .ok (.invokevirtual 251, 3) := by decide +kernel
theorem dX11_both_39 : decode cX11_both 39 = .ok (.istore_n 2, 1) := by decide +kernel
theorem dX11_both_40 : decode cX11_both 40 = .ok (.iload_n 1, 1) := by decide +kernel
theorem dX11_both_41 : decode cX11_both 41 = .ok (.ifCond .eq 11, 3) := by decide +kernel
theorem dX11_both_44 : decode cX11_both 44 = .ok (.iload_n 2, 1) := by decide +kernel
theorem dX11_both_45 : decode cX11_both 45 = .ok (.ifCond .eq 7, 3) := by decide +kernel
theorem dX11_both_48 : decode cX11_both 48 = .ok (.iconst 1, 1) := by decide +kernel
theorem dX11_both_49 : decode cX11_both 49 = .ok (.goto 4, 3) := by decide +kernel
theorem dX11_both_52 : decode cX11_both 52 = .ok (.iconst 0, 1) := by decide +kernel
theorem dX11_both_53 : decode cX11_both 53 = .ok (.istore_n 1, 1) := by decide +kernel
theorem dX11_both_54 : decode cX11_both 54 = .ok (.goto (-49), 3) := by decide +kernel
theorem dX11_both_57 : decode cX11_both 57 = .ok (.iload_n 1, 1) := by decide +kernel
theorem dX11_both_58 : decode cX11_both 58 = .ok (.ireturn, 1) := by decide +kernel
theorem dX11_whole_0 : decode cX11_whole 0 = .ok (.aload_n 0, 1) := by decide +kernel
theorem dX11_whole_1 : decode cX11_whole 1 = .ok (.invokevirtual 254, 3) := by decide +kernel
theorem dX11_whole_4 : decode cX11_whole 4 = .ok (.istore_n 1, 1) := by decide +kernel
theorem dX11_whole_5 : decode cX11_whole 5 = .ok (.aload_n 0, 1) := by decide +kernel
theorem dX11_whole_6 : decode cX11_whole 6 = .ok (.getfield 206, 3) := by decide +kernel
theorem dX11_whole_9 : decode cX11_whole 9 = .ok (.ifCond .eq 48, 3) := by decide +kernel
theorem dX11_whole_12 : decode cX11_whole 12 = .ok (.aload_n 0, 1) := by decide +kernel
theorem dX11_whole_13 : decode cX11_whole 13 = .ok (.aload_n 0, 1) := by decide +kernel
theorem dX11_whole_14 : decode cX11_whole 14 = .ok (.getfield 209, 3) := by decide +kernel
theorem dX11_whole_17 : decode cX11_whole 17 = .ok (.invokevirtual 212, 3) := by decide +kernel
theorem dX11_whole_20 : decode cX11_whole 20 = .ok (.bipush 124, 2) := by decide +kernel
theorem dX11_whole_22 : decode cX11_whole 22 = .ok (.if_icmp .ne 35, 3) := by decide +kernel
theorem dX11_whole_25 : decode cX11_whole 25 = .ok (.aload_n 0, 1) := by decide +kernel
theorem dX11_whole_26 : decode cX11_whole 26 = .ok (.dup, 1) := by decide +kernel
theorem dX11_whole_27 : decode cX11_whole 27 = .ok (.getfield 209, 3) := by decide +kernel
theorem dX11_whole_30 : decode cX11_whole 30 = .ok (.iconst 1, 1) := by decide +kernel
theorem dX11_whole_31 : decode cX11_whole 31 = .ok (.iadd, 1) := by decide +kernel
theorem dX11_whole_32 : decode cX11_whole 32 = .ok (.putfield 209, 3) := by decide +kernel
theorem dX11_whole_35 : decode cX11_whole 35 = .ok (.aload_n 0, 1) := by decide +kernel
theorem dX11_whole_36 : decode cX11_whole 36 = .ok (.invokevirtual 254, 3) := by decide +kernel
theorem dX11_whole_39 : decode cX11_whole 39 = .ok (.istore_n 2, 1) := by decide +kernel
theorem dX11_whole_40 : decode cX11_whole 40 = .ok (.iload_n 1, 1) := by decide +kernel
theorem dX11_whole_41 : decode cX11_whole 41 = .ok (.ifCond .ne 7, 3) := by decide +kernel
theorem dX11_whole_44 : decode cX11_whole 44 = .ok (.iload_n 2, 1) := by decide +kernel
theorem dX11_whole_45 : decode cX11_whole 45 = .ok (.ifCond .eq 7, 3) := by decide +kernel
theorem dX11_whole_48 : decode cX11_whole 48 = .ok (.iconst 1, 1) := by decide +kernel
theorem dX11_whole_49 : decode cX11_whole 49 = .ok (.goto 4, 3) := by decide +kernel
theorem dX11_whole_52 : decode cX11_whole 52 = .ok (.iconst 0, 1) := by decide +kernel
theorem dX11_whole_53 : decode cX11_whole 53 = .ok (.istore_n 1, 1) := by decide +kernel
theorem dX11_whole_54 : decode cX11_whole 54 = .ok (.goto (-49), 3) := by decide +kernel
theorem dX11_whole_57 : decode cX11_whole 57 = .ok (.iload_n 1, 1) := by decide +kernel
theorem dX11_whole_58 : decode cX11_whole 58 = .ok (.ireturn, 1) := by decide +kernel
theorem dX11_walks_0 : decode cX11_walks 0 = .ok (.aload_n 0, 1) := by decide +kernel
theorem dX11_walks_1 : decode cX11_walks 1 = .ok (.iload_n 1, 1) := by decide +kernel
theorem dX11_walks_2 : decode cX11_walks 2 = .ok (.putfield 203, 3) := by decide +kernel
theorem dX11_walks_5 : decode cX11_walks 5 = .ok (.aload_n 0, 1) := by decide +kernel
theorem dX11_walks_6 : decode cX11_walks 6 = .ok (.iconst 0, 1) := by decide +kernel
theorem dX11_walks_7 : decode cX11_walks 7 = .ok (.putfield 209, 3) := by decide +kernel
theorem dX11_walks_10 : decode cX11_walks 10 = .ok (.aload_n 0, 1) := by decide +kernel
theorem dX11_walks_11 : decode cX11_walks 11 = .ok (.aload_n 0, 1) := by decide +kernel
theorem dX11_walks_12 : decode cX11_walks 12 = .ok (.getfield 7, 3) := by decide +kernel
theorem dX11_walks_15 : decode cX11_walks 15 = .ok (.bipush 7, 2) := by decide +kernel
theorem dX11_walks_17 : decode cX11_walks 17 = .ok (.iload_n 1, 1) := by decide +kernel
theorem dX11_walks_18 : decode cX11_walks 18 = .ok (.iadd, 1) := by decide +kernel
theorem dX11_walks_19 : decode cX11_walks 19 = .ok (.iaload, 1) := by decide +kernel
theorem dX11_walks_20 : decode cX11_walks 20 = .ok (.putfield 200, 3) := by decide +kernel
theorem dX11_walks_23 : decode cX11_walks 23 = .ok (.aload_n 0, 1) := by decide +kernel
theorem dX11_walks_24 : decode cX11_walks 24 = .ok (.iconst 0, 1) := by decide +kernel
theorem dX11_walks_25 : decode cX11_walks 25 = .ok (.putfield 236, 3) := by decide +kernel
theorem dX11_walks_28 : decode cX11_walks 28 = .ok (.aload_n 0, 1) := by decide +kernel
theorem dX11_walks_29 : decode cX11_walks 29 = .ok (.iconst 1, 1) := by decide +kernel
theorem dX11_walks_30 : decode cX11_walks 30 = .ok (.putfield 206, 3) := by decide +kernel
theorem dX11_walks_33 : decode cX11_walks 33 = .ok (.aload_n 0, 1) := by decide +kernel
theorem dX11_walks_34 : decode cX11_walks 34 = .ok (.iload_n 2, 1) := by decide +kernel
theorem dX11_walks_35 : decode cX11_walks 35 = .ok (.putfield 221, 3) := by decide +kernel
theorem dX11_walks_38 : decode cX11_walks 38 = .ok (.aload_n 0, 1) := by decide +kernel
theorem dX11_walks_39 : decode cX11_walks 39 = .ok (.iload_n 3, 1) := by decide +kernel
theorem dX11_walks_40 : decode cX11_walks 40 = .ok (.putfield 224, 3) := by decide +kernel
theorem dX11_walks_43 : decode cX11_walks 43 = .ok (.aload_n 0, 1) := by decide +kernel
theorem dX11_walks_44 : decode cX11_walks 44 = .ok (.iload 4, 2) := by decide +kernel
theorem dX11_walks_46 : decode cX11_walks 46 = .ok (.putfield 227, 3) := by decide +kernel
theorem dX11_walks_49 : decode cX11_walks 49 = .ok (.aload_n 0, 1) := by decide +kernel
theorem dX11_walks_50 : decode cX11_walks 50 = .ok (.invokevirtual 242, 3) := by decide +kernel
theorem dX11_walks_53 : decode cX11_walks 53 = .ok (.istore 5, 2) := by decide +kernel
theorem dX11_walks_55 : decode cX11_walks 55 = .ok (.aload_n 0, 1) := by decide +kernel
theorem dX11_walks_56 : decode cX11_walks 56 = .ok (.aload_n 0, 1) := by decide +kernel
theorem dX11_walks_57 : decode cX11_walks 57 = .ok (.getfield 206, 3) := by decide +kernel
theorem dX11_walks_60 : decode cX11_walks 60 = .ok (.ifCond .eq 18, 3) := by decide +kernel
theorem dX11_walks_63 : decode cX11_walks 63 = .ok (.aload_n 0, 1) := by decide +kernel
theorem dX11_walks_64 : decode cX11_walks 64 = .ok (.getfield 209, 3) := by decide +kernel
theorem dX11_walks_67 : decode cX11_walks 67 = .ok (.aload_n 0, 1) := by decide +kernel
theorem dX11_walks_68 : decode cX11_walks 68 = .ok (.getfield 200, 3) := by decide +kernel
theorem dX11_walks_71 : decode cX11_walks 71 = .ok (.if_icmp .ne 7, 3) := by decide +kernel
theorem dX11_walks_74 : decode cX11_walks 74 = .ok (.iconst 1, 1) := by decide +kernel
theorem dX11_walks_75 : decode cX11_walks 75 = .ok (.goto 4, 3) := by decide +kernel
theorem dX11_walks_78 : decode cX11_walks 78 = .ok (.iconst 0, 1) := by decide +kernel
theorem dX11_walks_79 : decode cX11_walks 79 = .ok (.putfield 206, 3) := by decide +kernel
theorem dX11_walks_82 : decode cX11_walks 82 = .ok (.iload 5, 2) := by decide +kernel
theorem dX11_walks_84 : decode cX11_walks 84 = .ok (.ireturn, 1) := by decide +kernel
theorem dX11_lawOf_0 : decode cX11_lawOf 0 = .ok (.aload_n 0, 1) := by decide +kernel
theorem dX11_lawOf_1 : decode cX11_lawOf 1 = .ok (.getfield 7, 3) := by decide +kernel
theorem dX11_lawOf_4 : decode cX11_lawOf 4 = .ok (.bipush 7, 2) := by decide +kernel
theorem dX11_lawOf_6 : decode cX11_lawOf 6 = .ok (.iload_n 1, 1) := by decide +kernel
theorem dX11_lawOf_7 : decode cX11_lawOf 7 = .ok (.iadd, 1) := by decide +kernel
theorem dX11_lawOf_8 : decode cX11_lawOf 8 = .ok (.iaload, 1) := by decide +kernel
theorem dX11_lawOf_9 : decode cX11_lawOf 9 = .ok (.ifCond .ge 22, 3) := by decide +kernel
theorem dX11_lawOf_12 : decode cX11_lawOf 12 = .ok (.iload_n 1, 1) := by decide +kernel
theorem dX11_lawOf_13 : decode cX11_lawOf 13 = .ok (.ifCond .ne 16, 3) := by decide +kernel
theorem dX11_lawOf_16 : decode cX11_lawOf 16 = .ok (.iconst 5, 1) := by decide +kernel
theorem dX11_lawOf_17 : decode cX11_lawOf 17 = .ok (.iload 4, 2) := by decide +kernel
theorem dX11_lawOf_19 : decode cX11_lawOf 19 = .ok (.iadd, 1) := by decide +kernel
theorem dX11_lawOf_20 : decode cX11_lawOf 20 = .ok (.iconst 0, 1) := by decide +kernel
theorem dX11_lawOf_21 : decode cX11_lawOf 21 = .ok (.bipush 99, 2) := by decide +kernel
theorem dX11_lawOf_23 : decode cX11_lawOf 23 = .ok (.invokestatic 117, 3) := by decide +kernel
theorem dX11_lawOf_26 : decode cX11_lawOf 26 = .ok (.goto 4, 3) := by decide +kernel
theorem dX11_lawOf_29 : decode cX11_lawOf 29 = .ok (.iconst 0, 1) := by decide +kernel
theorem dX11_lawOf_30 : decode cX11_lawOf 30 = .ok (.ireturn, 1) := by decide +kernel
theorem dX11_lawOf_31 : decode cX11_lawOf 31 = .ok (.aload_n 0, 1) := by decide +kernel
theorem dX11_lawOf_32 : decode cX11_lawOf 32 = .ok (.iload_n 1, 1) := by decide +kernel
theorem dX11_lawOf_33 : decode cX11_lawOf 33 = .ok (.iload_n 2, 1) := by decide +kernel
theorem dX11_lawOf_34 : decode cX11_lawOf 34 = .ok (.iload_n 3, 1) := by decide +kernel
theorem dX11_lawOf_35 : decode cX11_lawOf 35 = .ok (.iload 4, 2) := by decide +kernel
theorem dX11_lawOf_37 : decode cX11_lawOf 37 = .ok (.invokevirtual 257, 3) := by decide +kernel
theorem dX11_lawOf_40 : decode cX11_lawOf 40 = .ok (.iload_n 1, 1) := by decide +kernel
theorem dX11_lawOf_41 : decode cX11_lawOf 41 = .ok (.ifCond .ne 7, 3) := by decide +kernel
theorem dX11_lawOf_44 : decode cX11_lawOf 44 = .ok (.iconst 0, 1) := by decide +kernel
theorem dX11_lawOf_45 : decode cX11_lawOf 45 = .ok (.goto 5, 3) := by decide +kernel
theorem dX11_lawOf_48 : decode cX11_lawOf 48 = .ok (.bipush (-99), 2) := by decide +kernel
theorem dX11_lawOf_50 : decode cX11_lawOf 50 = .ok (.bipush 99, 2) := by decide +kernel
theorem dX11_lawOf_52 : decode cX11_lawOf 52 = .ok (.invokestatic 117, 3) := by decide +kernel
theorem dX11_lawOf_55 : decode cX11_lawOf 55 = .ok (.ireturn, 1) := by decide +kernel
theorem dX11_law_0 : decode cX11_law 0 = .ok (.iload_n 1, 1) := by decide +kernel
theorem dX11_law_1 : decode cX11_law 1 = .ok (.iconst 0, 1) := by decide +kernel
theorem dX11_law_2 : decode cX11_law 2 = .ok (.iconst 1, 1) := by decide +kernel
theorem dX11_law_3 : decode cX11_law 3 = .ok (.invokestatic 71, 3) := by decide +kernel
theorem dX11_law_6 : decode cX11_law 6 = .ok (.ifCond .eq 15, 3) := by decide +kernel
theorem dX11_law_9 : decode cX11_law 9 = .ok (.aload_n 0, 1) := by decide +kernel
theorem dX11_law_10 : decode cX11_law 10 = .ok (.iload_n 1, 1) := by decide +kernel
theorem dX11_law_11 : decode cX11_law 11 = .ok (.iload_n 2, 1) := by decide +kernel
theorem dX11_law_12 : decode cX11_law 12 = .ok (.iload_n 3, 1) := by decide +kernel
theorem dX11_law_13 : decode cX11_law 13 = .ok (.iload 4, 2) := by decide +kernel
theorem dX11_law_15 : decode cX11_law 15 = .ok (.invokevirtual 95, 3) := by decide +kernel
theorem dX11_law_18 : decode cX11_law 18 = .ok (.goto 9, 3) := by decide +kernel
theorem dX11_law_21 : decode cX11_law 21 = .ok (.aload_n 0, 1) := by decide +kernel
theorem dX11_law_22 : decode cX11_law 22 = .ok (.ldc 78, 2) := by decide +kernel
theorem dX11_law_24 : decode cX11_law 24 = .ok (.invokevirtual 79, 3) := by decide +kernel
theorem dX11_law_27 : decode cX11_law 27 = .ok (.ireturn, 1) := by decide +kernel
theorem dX11_feed_0 : decode cX11_feed 0 = .ok (.iload_n 3, 1) := by decide +kernel
theorem dX11_feed_1 : decode cX11_feed 1 = .ok (.iconst 1, 1) := by decide +kernel
theorem dX11_feed_2 : decode cX11_feed 2 = .ok (.bipush 8, 2) := by decide +kernel
theorem dX11_feed_4 : decode cX11_feed 4 = .ok (.invokestatic 71, 3) := by decide +kernel
theorem dX11_feed_7 : decode cX11_feed 7 = .ok (.ifCond .ne 10, 3) := by decide +kernel
theorem dX11_feed_10 : decode cX11_feed 10 = .ok (.aload_n 0, 1) := by decide +kernel
theorem dX11_feed_11 : decode cX11_feed 11 = .ok (.ldc 78, 2) := by decide +kernel
theorem dX11_feed_13 : decode cX11_feed 13 = .ok (.invokevirtual 79, 3) := by decide +kernel
theorem dX11_feed_16 : decode cX11_feed 16 = .ok (.ireturn, 1) := by decide +kernel
theorem dX11_feed_17 : decode cX11_feed 17 = .ok (.aload_n 0, 1) := by decide +kernel
theorem dX11_feed_18 : decode cX11_feed 18 = .ok (.getfield 7, 3) := by decide +kernel
theorem dX11_feed_21 : decode cX11_feed 21 = .ok (.iconst 5, 1) := by decide +kernel
theorem dX11_feed_22 : decode cX11_feed 22 = .ok (.iaload, 1) := by decide +kernel
theorem dX11_feed_23 : decode cX11_feed 23 = .ok (.iload_n 3, 1) := by decide +kernel
theorem dX11_feed_24 : decode cX11_feed 24 = .ok (.iadd, 1) := by decide +kernel
theorem dX11_feed_25 : decode cX11_feed 25 = .ok (.bipush 50, 2) := by decide +kernel
theorem dX11_feed_27 : decode cX11_feed 27 = .ok (.if_icmp .le 11, 3) := by decide +kernel
theorem dX11_feed_30 : decode cX11_feed 30 = .ok (.aload_n 0, 1) := by decide +kernel
theorem dX11_feed_31 : decode cX11_feed 31 = .ok (.ldc_w 260, 3) := by decide +kernel
theorem dX11_feed_34 : decode cX11_feed 34 = .ok (.invokevirtual 79, 3) := by decide +kernel
theorem dX11_feed_37 : decode cX11_feed 37 = .ok (.ireturn, 1) := by decide +kernel
theorem dX11_feed_38 : decode cX11_feed 38 = .ok (.iconst 0, 1) := by decide +kernel
theorem dX11_feed_39 : decode cX11_feed 39 = .ok (.istore 4, 2) := by decide +kernel
theorem dX11_feed_41 : decode cX11_feed 41 = .ok (.iload 4, 2) := by decide +kernel
theorem dX11_feed_43 : decode cX11_feed 43 = .ok (.iload_n 3, 1) := by decide +kernel
theorem dX11_feed_44 : decode cX11_feed 44 = .ok (.if_icmp .ge 46, 3) := by decide +kernel
theorem dX11_feed_47 : decode cX11_feed 47 = .ok (.aload_n 0, 1) := by decide +kernel
theorem dX11_feed_48 : decode cX11_feed 48 = .ok (.getfield 7, 3) := by decide +kernel
theorem dX11_feed_51 : decode cX11_feed 51 = .ok (.sipush 135, 3) := by decide +kernel
theorem dX11_feed_54 : decode cX11_feed 54 = .ok (.aload_n 0, 1) := by decide +kernel
theorem dX11_feed_55 : decode cX11_feed 55 = .ok (.getfield 7, 3) := by decide +kernel
theorem dX11_feed_58 : decode cX11_feed 58 = .ok (.iconst 5, 1) := by decide +kernel
theorem dX11_feed_59 : decode cX11_feed 59 = .ok (.iaload, 1) := by decide +kernel
theorem dX11_feed_60 : decode cX11_feed 60 = .ok (.iadd, 1) := by decide +kernel
theorem dX11_feed_61 : decode cX11_feed 61 = .ok (.lload_n 1, 1) := by decide +kernel
theorem dX11_feed_62 : decode cX11_feed 62 = .ok (.bipush 8, 2) := by decide +kernel
theorem dX11_feed_64 : decode cX11_feed 64 = .ok (.iload 4, 2) := by decide +kernel
theorem dX11_feed_66 : decode cX11_feed 66 = .ok (.imul, 1) := by decide +kernel
theorem dX11_feed_67 : decode cX11_feed 67 = .ok (.lshr, 1) := by decide +kernel
theorem dX11_feed_68 : decode cX11_feed 68 = .ok (.ldc2_w 261, 3) := by decide +kernel
theorem dX11_feed_71 : decode cX11_feed 71 = .ok (.land, 1) := by decide +kernel
theorem dX11_feed_72 : decode cX11_feed 72 = .ok (.l2i, 1) := by decide +kernel
theorem dX11_feed_73 : decode cX11_feed 73 = .ok (.iastore, 1) := by decide +kernel
theorem dX11_feed_74 : decode cX11_feed 74 = .ok (.aload_n 0, 1) := by decide +kernel
theorem dX11_feed_75 : decode cX11_feed 75 = .ok (.getfield 7, 3) := by decide +kernel
theorem dX11_feed_78 : decode cX11_feed 78 = .ok (.iconst 5, 1) := by decide +kernel
theorem dX11_feed_79 : decode cX11_feed 79 = .ok (.dup2, 1) := by decide +kernel
theorem dX11_feed_80 : decode cX11_feed 80 = .ok (.iaload, 1) := by decide +kernel
theorem dX11_feed_81 : decode cX11_feed 81 = .ok (.iconst 1, 1) := by decide +kernel
theorem dX11_feed_82 : decode cX11_feed 82 = .ok (.iadd, 1) := by decide +kernel
theorem dX11_feed_83 : decode cX11_feed 83 = .ok (.iastore, 1) := by decide +kernel
theorem dX11_feed_84 : decode cX11_feed 84 = .ok (.iinc 4 1, 3) := by decide +kernel
theorem dX11_feed_87 : decode cX11_feed 87 = .ok (.goto (-46), 3) := by decide +kernel
theorem dX11_feed_90 : decode cX11_feed 90 = .ok (.aload_n 0, 1) := by decide +kernel
theorem dX11_feed_91 : decode cX11_feed 91 = .ok (.getfield 7, 3) := by decide +kernel
theorem dX11_feed_94 : decode cX11_feed 94 = .ok (.iconst 5, 1) := by decide +kernel
theorem dX11_feed_95 : decode cX11_feed 95 = .ok (.iaload, 1) := by decide +kernel
theorem dX11_feed_96 : decode cX11_feed 96 = .ok (.ireturn, 1) := by decide +kernel
theorem dX11_text_0 : decode cX11_text 0 = .ok (.iload_n 1, 1) := by decide +kernel
theorem dX11_text_1 : decode cX11_text 1 = .ok (.iconst 0, 1) := by decide +kernel
theorem dX11_text_2 : decode cX11_text 2 = .ok (.iconst 1, 1) := by decide +kernel
theorem dX11_text_3 : decode cX11_text 3 = .ok (.invokestatic 71, 3) := by decide +kernel
theorem dX11_text_6 : decode cX11_text 6 = .ok (.ifCond .ne 10, 3) := by decide +kernel
theorem dX11_text_9 : decode cX11_text 9 = .ok (.aload_n 0, 1) := by decide +kernel
theorem dX11_text_10 : decode cX11_text 10 = .ok (.ldc 78, 2) := by decide +kernel
theorem dX11_text_12 : decode cX11_text 12 = .ok (.invokevirtual 79, 3) := by decide +kernel
theorem dX11_text_15 : decode cX11_text 15 = .ok (.ireturn, 1) := by decide +kernel
theorem dX11_text_16 : decode cX11_text 16 = .ok (.aload_n 0, 1) := by decide +kernel
theorem dX11_text_17 : decode cX11_text 17 = .ok (.aload_n 0, 1) := by decide +kernel
theorem dX11_text_18 : decode cX11_text 18 = .ok (.getfield 7, 3) := by decide +kernel
theorem dX11_text_21 : decode cX11_text 21 = .ok (.aload_n 0, 1) := by decide +kernel
theorem dX11_text_22 : decode cX11_text 22 = .ok (.getfield 19, 3) := by decide +kernel
theorem dX11_text_25 : decode cX11_text 25 = .ok (.invokevirtual 188, 3) := by decide +kernel
theorem dX11_text_28 : decode cX11_text 28 = .ok (.iconst 0, 1) := by decide +kernel
theorem dX11_text_29 : decode cX11_text 29 = .ok (.istore_n 2, 1) := by decide +kernel
theorem dX11_text_30 : decode cX11_text 30 = .ok (.iload_n 2, 1) := by decide +kernel
theorem dX11_text_31 : decode cX11_text 31 = .ok (.bipush 50, 2) := by decide +kernel
theorem dX11_text_33 : decode cX11_text 33 = .ok (.if_icmp .ge 34, 3) := by decide +kernel
theorem dX11_text_36 : decode cX11_text 36 = .ok (.aload_n 0, 1) := by decide +kernel
theorem dX11_text_37 : decode cX11_text 37 = .ok (.getfield 7, 3) := by decide +kernel
theorem dX11_text_40 : decode cX11_text 40 = .ok (.sipush 205, 3) := by decide +kernel
theorem dX11_text_43 : decode cX11_text 43 = .ok (.bipush 50, 2) := by decide +kernel
theorem dX11_text_45 : decode cX11_text 45 = .ok (.iload_n 1, 1) := by decide +kernel
theorem dX11_text_46 : decode cX11_text 46 = .ok (.imul, 1) := by decide +kernel
theorem dX11_text_47 : decode cX11_text 47 = .ok (.iadd, 1) := by decide +kernel
theorem dX11_text_48 : decode cX11_text 48 = .ok (.iload_n 2, 1) := by decide +kernel
theorem dX11_text_49 : decode cX11_text 49 = .ok (.iadd, 1) := by decide +kernel
theorem dX11_text_50 : decode cX11_text 50 = .ok (.aload_n 0, 1) := by decide +kernel
theorem dX11_text_51 : decode cX11_text 51 = .ok (.getfield 7, 3) := by decide +kernel
theorem dX11_text_54 : decode cX11_text 54 = .ok (.sipush 135, 3) := by decide +kernel
theorem dX11_text_57 : decode cX11_text 57 = .ok (.iload_n 2, 1) := by decide +kernel
theorem dX11_text_58 : decode cX11_text 58 = .ok (.iadd, 1) := by decide +kernel
theorem dX11_text_59 : decode cX11_text 59 = .ok (.iaload, 1) := by decide +kernel
theorem dX11_text_60 : decode cX11_text 60 = .ok (.iastore, 1) := by decide +kernel
theorem dX11_text_61 : decode cX11_text 61 = .ok (.iinc 2 1, 3) := by decide +kernel
theorem dX11_text_64 : decode cX11_text 64 = .ok (.goto (-34), 3) := by decide +kernel
theorem dX11_text_67 : decode cX11_text 67 = .ok (.aload_n 0, 1) := by decide +kernel
theorem dX11_text_68 : decode cX11_text 68 = .ok (.getfield 7, 3) := by decide +kernel
theorem dX11_text_71 : decode cX11_text 71 = .ok (.bipush 7, 2) := by decide +kernel
theorem dX11_text_73 : decode cX11_text 73 = .ok (.iload_n 1, 1) := by decide +kernel
theorem dX11_text_74 : decode cX11_text 74 = .ok (.iadd, 1) := by decide +kernel
theorem dX11_text_75 : decode cX11_text 75 = .ok (.aload_n 0, 1) := by decide +kernel
theorem dX11_text_76 : decode cX11_text 76 = .ok (.getfield 7, 3) := by decide +kernel
theorem dX11_text_79 : decode cX11_text 79 = .ok (.iconst 5, 1) := by decide +kernel
theorem dX11_text_80 : decode cX11_text 80 = .ok (.iaload, 1) := by decide +kernel
theorem dX11_text_81 : decode cX11_text 81 = .ok (.iastore, 1) := by decide +kernel
theorem dX11_text_82 : decode cX11_text 82 = .ok (.aload_n 0, 1) := by decide +kernel
theorem dX11_text_83 : decode cX11_text 83 = .ok (.iload_n 1, 1) := by decide +kernel
theorem dX11_text_84 : decode cX11_text 84 = .ok (.iconst 1, 1) := by decide +kernel
theorem dX11_text_85 : decode cX11_text 85 = .ok (.iconst 1, 1) := by decide +kernel
theorem dX11_text_86 : decode cX11_text 86 = .ok (.iconst 1, 1) := by decide +kernel
theorem dX11_text_87 : decode cX11_text 87 = .ok (.invokevirtual 257, 3) := by decide +kernel
theorem dX11_text_90 : decode cX11_text 90 = .ok (.istore_n 2, 1) := by decide +kernel
theorem dX11_text_91 : decode cX11_text 91 = .ok (.aload_n 0, 1) := by decide +kernel
theorem dX11_text_92 : decode cX11_text 92 = .ok (.getfield 206, 3) := by decide +kernel
theorem dX11_text_95 : decode cX11_text 95 = .ok (.ifCond .eq 12, 3) := by decide +kernel
theorem dX11_text_98 : decode cX11_text 98 = .ok (.iload_n 2, 1) := by decide +kernel
theorem dX11_text_99 : decode cX11_text 99 = .ok (.iload_n 2, 1) := by decide +kernel
theorem dX11_text_100 : decode cX11_text 100 = .ok (.if_icmp .ne 7, 3) := by decide +kernel
theorem dX11_text_103 : decode cX11_text 103 = .ok (.iconst 1, 1) := by decide +kernel
theorem dX11_text_104 : decode cX11_text 104 = .ok (.goto 4, 3) := by decide +kernel
theorem dX11_text_107 : decode cX11_text 107 = .ok (.iconst 0, 1) := by decide +kernel
theorem dX11_text_108 : decode cX11_text 108 = .ok (.istore_n 3, 1) := by decide +kernel
theorem dX11_text_109 : decode cX11_text 109 = .ok (.aload_n 0, 1) := by decide +kernel
theorem dX11_text_110 : decode cX11_text 110 = .ok (.getfield 209, 3) := by decide +kernel
theorem dX11_text_113 : decode cX11_text 113 = .ok (.istore 4, 2) := by decide +kernel
theorem dX11_text_115 : decode cX11_text 115 = .ok (.iload_n 3, 1) := by decide +kernel
theorem dX11_text_116 : decode cX11_text 116 = .ok (.ifCond .ne 15, 3) := by decide +kernel
theorem dX11_text_119 : decode cX11_text 119 = .ok (.aload_n 0, 1) := by decide +kernel
theorem dX11_text_120 : decode cX11_text 120 = .ok (.aload_n 0, 1) := by decide +kernel
theorem dX11_text_121 : decode cX11_text 121 = .ok (.getfield 19, 3) := by decide +kernel
theorem dX11_text_124 : decode cX11_text 124 = .ok (.aload_n 0, 1) := by decide +kernel
theorem dX11_text_125 : decode cX11_text 125 = .ok (.getfield 7, 3) := by decide +kernel
theorem dX11_text_128 : decode cX11_text 128 = .ok (.invokevirtual 188, 3) := by decide +kernel
theorem dX11_text_131 : decode cX11_text 131 = .ok (.aload_n 0, 1) := by decide +kernel
theorem dX11_text_132 : decode cX11_text 132 = .ok (.getfield 7, 3) := by decide +kernel
theorem dX11_text_135 : decode cX11_text 135 = .ok (.iconst 5, 1) := by decide +kernel
theorem dX11_text_136 : decode cX11_text 136 = .ok (.iconst 0, 1) := by decide +kernel
theorem dX11_text_137 : decode cX11_text 137 = .ok (.iastore, 1) := by decide +kernel
theorem dX11_text_138 : decode cX11_text 138 = .ok (.iload_n 3, 1) := by decide +kernel
theorem dX11_text_139 : decode cX11_text 139 = .ok (.ifCond .eq 7, 3) := by decide +kernel
theorem dX11_text_142 : decode cX11_text 142 = .ok (.iconst 1, 1) := by decide +kernel
theorem dX11_text_143 : decode cX11_text 143 = .ok (.goto 8, 3) := by decide +kernel
theorem dX11_text_146 : decode cX11_text 146 = .ok (.bipush (-10), 2) := by decide +kernel
theorem dX11_text_148 : decode cX11_text 148 = .ok (.iload 4, 2) := by decide +kernel
theorem dX11_text_150 : decode cX11_text 150 = .ok (.isub, 1) := by decide +kernel
theorem dX11_text_151 : decode cX11_text 151 = .ok (.ireturn, 1) := by decide +kernel
theorem dX11_standsAs_0 : decode cX11_standsAs 0 = .ok (.iconst 1, 1) := by decide +kernel
theorem dX11_standsAs_1 : decode cX11_standsAs 1 = .ok (.istore_n 2, 1) := by decide +kernel
theorem dX11_standsAs_2 : decode cX11_standsAs 2 = .ok (.iconst 0, 1) := by decide +kernel
theorem dX11_standsAs_3 : decode cX11_standsAs 3 = .ok (.istore_n 3, 1) := by decide +kernel
theorem dX11_standsAs_4 : decode cX11_standsAs 4 = .ok (.iload_n 3, 1) := by decide +kernel
theorem dX11_standsAs_5 : decode cX11_standsAs 5 = .ok (.aload_n 0, 1) := by decide +kernel
theorem dX11_standsAs_6 : decode cX11_standsAs 6 = .ok (.invokevirtual 67, 3) := by decide +kernel
theorem dX11_standsAs_9 : decode cX11_standsAs 9 = .ok (.if_icmp .ge 63, 3) := by decide +kernel
theorem dX11_standsAs_12 : decode cX11_standsAs 12 = .ok (.bipush 10, 2) := by decide +kernel
theorem dX11_standsAs_14 : decode cX11_standsAs 14 = .ok (.iconst 5, 1) := by decide +kernel
theorem dX11_standsAs_15 : decode cX11_standsAs 15 = .ok (.iload_n 3, 1) := by decide +kernel
theorem dX11_standsAs_16 : decode cX11_standsAs 16 = .ok (.imul, 1) := by decide +kernel
theorem dX11_standsAs_17 : decode cX11_standsAs 17 = .ok (.iadd, 1) := by decide +kernel
theorem dX11_standsAs_18 : decode cX11_standsAs 18 = .ok (.istore 4, 2) := by decide +kernel
theorem dX11_standsAs_20 : decode cX11_standsAs 20 = .ok (.iload_n 2, 1) := by decide +kernel
theorem dX11_standsAs_21 : decode cX11_standsAs 21 = .ok (.ifCond .eq 43, 3) := by decide +kernel
theorem dX11_standsAs_24 : decode cX11_standsAs 24 = .ok (.aload_n 0, 1) := by decide +kernel
theorem dX11_standsAs_25 : decode cX11_standsAs 25 = .ok (.getfield 7, 3) := by decide +kernel
theorem dX11_standsAs_28 : decode cX11_standsAs 28 = .ok (.iload 4, 2) := by decide +kernel
theorem dX11_standsAs_30 : decode cX11_standsAs 30 = .ok (.iconst 2, 1) := by decide +kernel
theorem dX11_standsAs_31 : decode cX11_standsAs 31 = .ok (.iadd, 1) := by decide +kernel
theorem dX11_standsAs_32 : decode cX11_standsAs 32 = .ok (.iaload, 1) := by decide +kernel
theorem dX11_standsAs_33 : decode cX11_standsAs 33 = .ok (.aload_n 1, 1) := by decide +kernel
theorem dX11_standsAs_34 : decode cX11_standsAs 34 = .ok (.iload 4, 2) := by decide +kernel
theorem dX11_standsAs_36 : decode cX11_standsAs 36 = .ok (.iconst 2, 1) := by decide +kernel
theorem dX11_standsAs_37 : decode cX11_standsAs 37 = .ok (.iadd, 1) := by decide +kernel
theorem dX11_standsAs_38 : decode cX11_standsAs 38 = .ok (.iaload, 1) := by decide +kernel
theorem dX11_standsAs_39 : decode cX11_standsAs 39 = .ok (.if_icmp .ne 25, 3) := by decide +kernel
theorem dX11_standsAs_42 : decode cX11_standsAs 42 = .ok (.aload_n 0, 1) := by decide +kernel
theorem dX11_standsAs_43 : decode cX11_standsAs 43 = .ok (.getfield 7, 3) := by decide +kernel
theorem dX11_standsAs_46 : decode cX11_standsAs 46 = .ok (.iload 4, 2) := by decide +kernel
theorem dX11_standsAs_48 : decode cX11_standsAs 48 = .ok (.iconst 3, 1) := by decide +kernel
theorem dX11_standsAs_49 : decode cX11_standsAs 49 = .ok (.iadd, 1) := by decide +kernel
theorem dX11_standsAs_50 : decode cX11_standsAs 50 = .ok (.iaload, 1) := by decide +kernel
theorem dX11_standsAs_51 : decode cX11_standsAs 51 = .ok (.aload_n 1, 1) := by decide +kernel
theorem dX11_standsAs_52 : decode cX11_standsAs 52 = .ok (.iload 4, 2) := by decide +kernel
theorem dX11_standsAs_54 : decode cX11_standsAs 54 = .ok (.iconst 3, 1) := by decide +kernel
theorem dX11_standsAs_55 : decode cX11_standsAs 55 = .ok (.iadd, 1) := by decide +kernel
theorem dX11_standsAs_56 : decode cX11_standsAs 56 = .ok (.iaload, 1) := by decide +kernel
theorem dX11_standsAs_57 : decode cX11_standsAs 57 = .ok (.if_icmp .ne 7, 3) := by decide +kernel
theorem dX11_standsAs_60 : decode cX11_standsAs 60 = .ok (.iconst 1, 1) := by decide +kernel
theorem dX11_standsAs_61 : decode cX11_standsAs 61 = .ok (.goto 4, 3) := by decide +kernel
theorem dX11_standsAs_64 : decode cX11_standsAs 64 = .ok (.iconst 0, 1) := by decide +kernel
theorem dX11_standsAs_65 : decode cX11_standsAs 65 = .ok (.istore_n 2, 1) := by decide +kernel
theorem dX11_standsAs_66 : decode cX11_standsAs 66 = .ok (.iinc 3 1, 3) := by decide +kernel
theorem dX11_standsAs_69 : decode cX11_standsAs 69 = .ok (.goto (-65), 3) := by decide +kernel
theorem dX11_standsAs_72 : decode cX11_standsAs 72 = .ok (.iload_n 2, 1) := by decide +kernel
theorem dX11_standsAs_73 : decode cX11_standsAs 73 = .ok (.ireturn, 1) := by decide +kernel
theorem dX11_round_0 : decode cX11_round 0 = .ok (.aload_n 0, 1) := by decide +kernel
theorem dX11_round_1 : decode cX11_round 1 = .ok (.iload_n 1, 1) := by decide +kernel
theorem dX11_round_2 : decode cX11_round 2 = .ok (.invokevirtual 182, 3) := by decide +kernel
theorem dX11_round_5 : decode cX11_round 5 = .ok (.ifCond .ne 10, 3) := by decide +kernel
theorem dX11_round_8 : decode cX11_round 8 = .ok (.aload_n 0, 1) := by decide +kernel
theorem dX11_round_9 : decode cX11_round 9 = .ok (.ldc 78, 2) := by decide +kernel
theorem dX11_round_11 : decode cX11_round 11 = .ok (.invokevirtual 79, 3) := by decide +kernel
theorem dX11_round_14 : decode cX11_round 14 = .ok (.ireturn, 1) := by decide +kernel
theorem dX11_round_15 : decode cX11_round 15 = .ok (.aload_n 0, 1) := by decide +kernel
theorem dX11_round_16 : decode cX11_round 16 = .ok (.aload_n 0, 1) := by decide +kernel
theorem dX11_round_17 : decode cX11_round 17 = .ok (.getfield 7, 3) := by decide +kernel
theorem dX11_round_20 : decode cX11_round 20 = .ok (.aload_n 0, 1) := by decide +kernel
theorem dX11_round_21 : decode cX11_round 21 = .ok (.getfield 16, 3) := by decide +kernel
theorem dX11_round_24 : decode cX11_round 24 = .ok (.invokevirtual 188, 3) := by decide +kernel
theorem dX11_round_27 : decode cX11_round 27 = .ok (.iconst 0, 1) := by decide +kernel
theorem dX11_round_28 : decode cX11_round 28 = .ok (.istore_n 2, 1) := by decide +kernel
theorem dX11_round_29 : decode cX11_round 29 = .ok (.iconst 0, 1) := by decide +kernel
theorem dX11_round_30 : decode cX11_round 30 = .ok (.istore_n 3, 1) := by decide +kernel
theorem dX11_round_31 : decode cX11_round 31 = .ok (.iload_n 2, 1) := by decide +kernel
theorem dX11_round_32 : decode cX11_round 32 = .ok (.sipush 400, 3) := by decide +kernel
theorem dX11_round_35 : decode cX11_round 35 = .ok (.if_icmp .ge 42, 3) := by decide +kernel
theorem dX11_round_38 : decode cX11_round 38 = .ok (.iload_n 3, 1) := by decide +kernel
theorem dX11_round_39 : decode cX11_round 39 = .ok (.ifCond .ne 38, 3) := by decide +kernel
theorem dX11_round_42 : decode cX11_round 42 = .ok (.aload_n 0, 1) := by decide +kernel
theorem dX11_round_43 : decode cX11_round 43 = .ok (.iload_n 1, 1) := by decide +kernel
theorem dX11_round_44 : decode cX11_round 44 = .ok (.invokevirtual 179, 3) := by decide +kernel
theorem dX11_round_47 : decode cX11_round 47 = .ok (.istore 4, 2) := by decide +kernel
theorem dX11_round_49 : decode cX11_round 49 = .ok (.iinc 2 1, 3) := by decide +kernel
theorem dX11_round_52 : decode cX11_round 52 = .ok (.iload 4, 2) := by decide +kernel
theorem dX11_round_54 : decode cX11_round 54 = .ok (.ifCond .lt 18, 3) := by decide +kernel
theorem dX11_round_57 : decode cX11_round 57 = .ok (.aload_n 0, 1) := by decide +kernel
theorem dX11_round_58 : decode cX11_round 58 = .ok (.aload_n 0, 1) := by decide +kernel
theorem dX11_round_59 : decode cX11_round 59 = .ok (.getfield 16, 3) := by decide +kernel
theorem dX11_round_62 : decode cX11_round 62 = .ok (.invokevirtual 263, 3) := by decide +kernel
theorem dX11_round_65 : decode cX11_round 65 = .ok (.ifCond .eq 7, 3) := by decide +kernel
theorem dX11_round_68 : decode cX11_round 68 = .ok (.iconst 1, 1) := by decide +kernel
theorem dX11_round_69 : decode cX11_round 69 = .ok (.goto 4, 3) := by decide +kernel
theorem dX11_round_72 : decode cX11_round 72 = .ok (.iconst 0, 1) := by decide +kernel
theorem dX11_round_73 : decode cX11_round 73 = .ok (.istore_n 3, 1) := by decide +kernel
theorem dX11_round_74 : decode cX11_round 74 = .ok (.goto (-43), 3) := by decide +kernel
theorem dX11_round_77 : decode cX11_round 77 = .ok (.aload_n 0, 1) := by decide +kernel
theorem dX11_round_78 : decode cX11_round 78 = .ok (.aload_n 0, 1) := by decide +kernel
theorem dX11_round_79 : decode cX11_round 79 = .ok (.getfield 16, 3) := by decide +kernel
theorem dX11_round_82 : decode cX11_round 82 = .ok (.aload_n 0, 1) := by decide +kernel
theorem dX11_round_83 : decode cX11_round 83 = .ok (.getfield 7, 3) := by decide +kernel
theorem dX11_round_86 : decode cX11_round 86 = .ok (.invokevirtual 188, 3) := by decide +kernel
theorem dX11_round_89 : decode cX11_round 89 = .ok (.iload_n 3, 1) := by decide +kernel
theorem dX11_round_90 : decode cX11_round 90 = .ok (.ifCond .eq 7, 3) := by decide +kernel
theorem dX11_round_93 : decode cX11_round 93 = .ok (.iload_n 2, 1) := by decide +kernel
theorem dX11_round_94 : decode cX11_round 94 = .ok (.goto 9, 3) := by decide +kernel
theorem dX11_round_97 : decode cX11_round 97 = .ok (.aload_n 0, 1) := by decide +kernel
theorem dX11_round_98 : decode cX11_round 98 = .ok (.ldc 195, 2) := by decide +kernel
theorem dX11_round_100 : decode cX11_round 100 = .ok (.invokevirtual 79, 3) := by decide +kernel
theorem dX11_round_103 : decode cX11_round 103 = .ok (.ireturn, 1) := by decide +kernel
theorem dX11_saves_0 : decode cX11_saves 0 = .ok (.iconst 0, 1) := by decide +kernel
theorem dX11_saves_1 : decode cX11_saves 1 = .ok (.istore_n 2, 1) := by decide +kernel
theorem dX11_saves_2 : decode cX11_saves 2 = .ok (.iload_n 2, 1) := by decide +kernel
theorem dX11_saves_3 : decode cX11_saves 3 = .ok (.sipush 305, 3) := by decide +kernel
theorem dX11_saves_6 : decode cX11_saves 6 = .ok (.if_icmp .ge 27, 3) := by decide +kernel
theorem dX11_saves_9 : decode cX11_saves 9 = .ok (.aload_n 0, 1) := by decide +kernel
theorem dX11_saves_10 : decode cX11_saves 10 = .ok (.getfield 35, 3) := by decide +kernel
theorem dX11_saves_13 : decode cX11_saves 13 = .ok (.sipush 305, 3) := by decide +kernel
theorem dX11_saves_16 : decode cX11_saves 16 = .ok (.iload_n 1, 1) := by decide +kernel
theorem dX11_saves_17 : decode cX11_saves 17 = .ok (.imul, 1) := by decide +kernel
theorem dX11_saves_18 : decode cX11_saves 18 = .ok (.iload_n 2, 1) := by decide +kernel
theorem dX11_saves_19 : decode cX11_saves 19 = .ok (.iadd, 1) := by decide +kernel
theorem dX11_saves_20 : decode cX11_saves 20 = .ok (.aload_n 0, 1) := by decide +kernel
theorem dX11_saves_21 : decode cX11_saves 21 = .ok (.getfield 7, 3) := by decide +kernel
theorem dX11_saves_24 : decode cX11_saves 24 = .ok (.iload_n 2, 1) := by decide +kernel
theorem dX11_saves_25 : decode cX11_saves 25 = .ok (.iaload, 1) := by decide +kernel
theorem dX11_saves_26 : decode cX11_saves 26 = .ok (.iastore, 1) := by decide +kernel
theorem dX11_saves_27 : decode cX11_saves 27 = .ok (.iinc 2 1, 3) := by decide +kernel
theorem dX11_saves_30 : decode cX11_saves 30 = .ok (.goto (-28), 3) := by decide +kernel
theorem dX11_saves_33 : decode cX11_saves 33 = .ok (.return_, 1) := by decide +kernel
theorem dX11_loads_0 : decode cX11_loads 0 = .ok (.iconst 0, 1) := by decide +kernel
theorem dX11_loads_1 : decode cX11_loads 1 = .ok (.istore_n 2, 1) := by decide +kernel
theorem dX11_loads_2 : decode cX11_loads 2 = .ok (.iload_n 2, 1) := by decide +kernel
theorem dX11_loads_3 : decode cX11_loads 3 = .ok (.sipush 305, 3) := by decide +kernel
theorem dX11_loads_6 : decode cX11_loads 6 = .ok (.if_icmp .ge 27, 3) := by decide +kernel
theorem dX11_loads_9 : decode cX11_loads 9 = .ok (.aload_n 0, 1) := by decide +kernel
theorem dX11_loads_10 : decode cX11_loads 10 = .ok (.getfield 7, 3) := by decide +kernel
theorem dX11_loads_13 : decode cX11_loads 13 = .ok (.iload_n 2, 1) := by decide +kernel
theorem dX11_loads_14 : decode cX11_loads 14 = .ok (.aload_n 0, 1) := by decide +kernel
theorem dX11_loads_15 : decode cX11_loads 15 = .ok (.getfield 35, 3) := by decide +kernel
theorem dX11_loads_18 : decode cX11_loads 18 = .ok (.sipush 305, 3) := by decide +kernel
theorem dX11_loads_21 : decode cX11_loads 21 = .ok (.iload_n 1, 1) := by decide +kernel
theorem dX11_loads_22 : decode cX11_loads 22 = .ok (.imul, 1) := by decide +kernel
theorem dX11_loads_23 : decode cX11_loads 23 = .ok (.iload_n 2, 1) := by decide +kernel
theorem dX11_loads_24 : decode cX11_loads 24 = .ok (.iadd, 1) := by decide +kernel
theorem dX11_loads_25 : decode cX11_loads 25 = .ok (.iaload, 1) := by decide +kernel
theorem dX11_loads_26 : decode cX11_loads 26 = .ok (.iastore, 1) := by decide +kernel
theorem dX11_loads_27 : decode cX11_loads 27 = .ok (.iinc 2 1, 3) := by decide +kernel
theorem dX11_loads_30 : decode cX11_loads 30 = .ok (.goto (-28), 3) := by decide +kernel
theorem dX11_loads_33 : decode cX11_loads 33 = .ok (.return_, 1) := by decide +kernel
theorem dX11_bringsBack_0 : decode cX11_bringsBack 0 = .ok (.iload_n 1, 1) := by decide +kernel
theorem dX11_bringsBack_1 : decode cX11_bringsBack 1 = .ok (.ifCond .ne 12, 3) := by decide +kernel
theorem dX11_bringsBack_4 : decode cX11_bringsBack 4 = .ok (.aload_n 0, 1) := by decide +kernel
theorem dX11_bringsBack_5 : decode cX11_bringsBack 5 = .ok (.aload_n 0, 1) := by decide +kernel
theorem dX11_bringsBack_6 : decode cX11_bringsBack 6 = .ok (.getfield 13, 3) := by decide +kernel
theorem dX11_bringsBack_9 : decode cX11_bringsBack 9 = .ok (.invokevirtual 263, 3) := by decide +kernel
theorem dX11_bringsBack_12 : decode cX11_bringsBack 12 = .ok (.ireturn, 1) := by decide +kernel
theorem dX11_bringsBack_13 : decode cX11_bringsBack 13 = .ok (.aload_n 0, 1) := by decide +kernel
theorem dX11_bringsBack_14 : decode cX11_bringsBack 14 = .ok (.iload_n 2, 1) := by decide +kernel
theorem dX11_bringsBack_15 : decode cX11_bringsBack 15 = .ok (.invokevirtual 267, 3) := by decide +kernel
theorem dX11_bringsBack_18 : decode cX11_bringsBack 18 = .ok (.iconst 0, 1) := by decide +kernel
theorem dX11_bringsBack_19 : decode cX11_bringsBack 19 = .ok (.istore_n 3, 1) := by decide +kernel
theorem dX11_bringsBack_20 : decode cX11_bringsBack 20 = .ok (.iconst 0, 1) := by decide +kernel
theorem dX11_bringsBack_21 : decode cX11_bringsBack 21 = .ok (.istore 4, 2) := by decide +kernel
theorem dX11_bringsBack_23 : decode cX11_bringsBack 23 = .ok (.iload 4, 2) := by decide +kernel
theorem dX11_bringsBack_25 : decode cX11_bringsBack 25 = .ok (.aload_n 0, 1) := by decide +kernel
theorem dX11_bringsBack_26 : decode cX11_bringsBack 26 = .ok (.invokevirtual 75, 3) := by decide +kernel
theorem dX11_bringsBack_29 : decode cX11_bringsBack 29 = .ok (.if_icmp .ge 58, 3) := by decide +kernel
theorem dX11_bringsBack_32 : decode cX11_bringsBack 32 = .ok (.iload_n 3, 1) := by decide +kernel
theorem dX11_bringsBack_33 : decode cX11_bringsBack 33 = .ok (.ifCond .ne 54, 3) := by decide +kernel
theorem dX11_bringsBack_36 : decode cX11_bringsBack 36 = .ok (.aload_n 0, 1) := by decide +kernel
theorem dX11_bringsBack_37 : decode cX11_bringsBack 37 = .ok (.getfield 32, 3) := by decide +kernel
theorem dX11_bringsBack_40 : decode cX11_bringsBack 40 = .ok (.iload_n 2, 1) := by decide +kernel
theorem dX11_bringsBack_41 : decode cX11_bringsBack 41 = .ok (.iload 4, 2) := by decide +kernel
theorem dX11_bringsBack_43 : decode cX11_bringsBack 43 = .ok (.iastore, 1) := by decide +kernel
theorem dX11_bringsBack_44 : decode cX11_bringsBack 44 = .ok (.aload_n 0, 1) := by decide +kernel
theorem dX11_bringsBack_45 : decode cX11_bringsBack 45 = .ok (.iload 4, 2) := by decide +kernel
theorem dX11_bringsBack_47 : decode cX11_bringsBack 47 = .ok (.invokevirtual 179, 3) := by decide +kernel
theorem dX11_bringsBack_50 : decode cX11_bringsBack 50 = .ok (.istore 5, 2) := by decide +kernel
theorem dX11_bringsBack_52 : decode cX11_bringsBack 52 = .ok (.iload 5, 2) := by decide +kernel
theorem dX11_bringsBack_54 : decode cX11_bringsBack 54 = .ok (.ifCond .lt 20, 3) := by decide +kernel
theorem dX11_bringsBack_57 : decode cX11_bringsBack 57 = .ok (.aload_n 0, 1) := by decide +kernel
theorem dX11_bringsBack_58 : decode cX11_bringsBack 58 = .ok (.iload_n 1, 1) := by decide +kernel
theorem dX11_bringsBack_59 : decode cX11_bringsBack 59 = .ok (.iconst 1, 1) := by decide +kernel
theorem dX11_bringsBack_60 : decode cX11_bringsBack 60 = .ok (.isub, 1) := by decide +kernel
theorem dX11_bringsBack_61 : decode cX11_bringsBack 61 = .ok (.iload_n 2, 1) := by decide +kernel
theorem dX11_bringsBack_62 : decode cX11_bringsBack 62 = .ok (.iconst 1, 1) := by decide +kernel
theorem dX11_bringsBack_63 : decode cX11_bringsBack 63 = .ok (.iadd, 1) := by decide +kernel
theorem dX11_bringsBack_64 : decode cX11_bringsBack 64 = .ok (.invokevirtual 270, 3) := by decide +kernel
theorem dX11_bringsBack_67 : decode cX11_bringsBack 67 = .ok (.ifCond .eq 7, 3) := by decide +kernel
theorem dX11_bringsBack_70 : decode cX11_bringsBack 70 = .ok (.iconst 1, 1) := by decide +kernel
theorem dX11_bringsBack_71 : decode cX11_bringsBack 71 = .ok (.goto 4, 3) := by decide +kernel
theorem dX11_bringsBack_74 : decode cX11_bringsBack 74 = .ok (.iconst 0, 1) := by decide +kernel
theorem dX11_bringsBack_75 : decode cX11_bringsBack 75 = .ok (.istore_n 3, 1) := by decide +kernel
theorem dX11_bringsBack_76 : decode cX11_bringsBack 76 = .ok (.aload_n 0, 1) := by decide +kernel
theorem dX11_bringsBack_77 : decode cX11_bringsBack 77 = .ok (.iload_n 2, 1) := by decide +kernel
theorem dX11_bringsBack_78 : decode cX11_bringsBack 78 = .ok (.invokevirtual 274, 3) := by decide +kernel
theorem dX11_bringsBack_81 : decode cX11_bringsBack 81 = .ok (.iinc 4 1, 3) := by decide +kernel
theorem dX11_bringsBack_84 : decode cX11_bringsBack 84 = .ok (.goto (-61), 3) := by decide +kernel
theorem dX11_bringsBack_87 : decode cX11_bringsBack 87 = .ok (.iload_n 3, 1) := by decide +kernel
theorem dX11_bringsBack_88 : decode cX11_bringsBack 88 = .ok (.ireturn, 1) := by decide +kernel
theorem dX11_back_0 : decode cX11_back 0 = .ok (.iload_n 1, 1) := by decide +kernel
theorem dX11_back_1 : decode cX11_back 1 = .ok (.iconst (-1), 1) := by decide +kernel
theorem dX11_back_2 : decode cX11_back 2 = .ok (.iconst 2, 1) := by decide +kernel
theorem dX11_back_3 : decode cX11_back 3 = .ok (.invokestatic 71, 3) := by decide +kernel
theorem dX11_back_6 : decode cX11_back 6 = .ok (.ifCond .ne 10, 3) := by decide +kernel
theorem dX11_back_9 : decode cX11_back 9 = .ok (.aload_n 0, 1) := by decide +kernel
theorem dX11_back_10 : decode cX11_back 10 = .ok (.ldc 78, 2) := by decide +kernel
theorem dX11_back_12 : decode cX11_back 12 = .ok (.invokevirtual 79, 3) := by decide +kernel
theorem dX11_back_15 : decode cX11_back 15 = .ok (.ireturn, 1) := by decide +kernel
theorem dX11_back_16 : decode cX11_back 16 = .ok (.aload_n 0, 1) := by decide +kernel
theorem dX11_back_17 : decode cX11_back 17 = .ok (.getfield 277, 3) := by decide +kernel
theorem dX11_back_20 : decode cX11_back 20 = .ok (.ifCond .eq 33, 3) := by decide +kernel
theorem dX11_back_23 : decode cX11_back 23 = .ok (.aload_n 0, 1) := by decide +kernel
theorem dX11_back_24 : decode cX11_back 24 = .ok (.getfield 13, 3) := by decide +kernel
theorem dX11_back_27 : decode cX11_back 27 = .ok (.iconst 0, 1) := by decide +kernel
theorem dX11_back_28 : decode cX11_back 28 = .ok (.iaload, 1) := by decide +kernel
theorem dX11_back_29 : decode cX11_back 29 = .ok (.aload_n 0, 1) := by decide +kernel
theorem dX11_back_30 : decode cX11_back 30 = .ok (.getfield 7, 3) := by decide +kernel
theorem dX11_back_33 : decode cX11_back 33 = .ok (.iconst 0, 1) := by decide +kernel
theorem dX11_back_34 : decode cX11_back 34 = .ok (.iaload, 1) := by decide +kernel
theorem dX11_back_35 : decode cX11_back 35 = .ok (.if_icmp .ne 18, 3) := by decide +kernel
theorem dX11_back_38 : decode cX11_back 38 = .ok (.aload_n 0, 1) := by decide +kernel
theorem dX11_back_39 : decode cX11_back 39 = .ok (.getfield 13, 3) := by decide +kernel
theorem dX11_back_42 : decode cX11_back 42 = .ok (.iconst 1, 1) := by decide +kernel
theorem dX11_back_43 : decode cX11_back 43 = .ok (.iaload, 1) := by decide +kernel
theorem dX11_back_44 : decode cX11_back 44 = .ok (.aload_n 0, 1) := by decide +kernel
theorem dX11_back_45 : decode cX11_back 45 = .ok (.getfield 7, 3) := by decide +kernel
theorem dX11_back_48 : decode cX11_back 48 = .ok (.iconst 1, 1) := by decide +kernel
theorem dX11_back_49 : decode cX11_back 49 = .ok (.iaload, 1) := by decide +kernel
theorem dX11_back_50 : decode cX11_back 50 = .ok (.if_icmp .eq 10, 3) := by decide +kernel
theorem dX11_back_53 : decode cX11_back 53 = .ok (.aload_n 0, 1) := by decide +kernel
theorem dX11_back_54 : decode cX11_back 54 = .ok (.ldc 128, 2) := by decide +kernel
theorem dX11_back_56 : decode cX11_back 56 = .ok (.invokevirtual 79, 3) := by decide +kernel
theorem dX11_back_59 : decode cX11_back 59 = .ok (.ireturn, 1) := by decide +kernel
theorem dX11_back_60 : decode cX11_back 60 = .ok (.iconst 0, 1) := by decide +kernel
theorem dX11_back_61 : decode cX11_back 61 = .ok (.istore_n 2, 1) := by decide +kernel
theorem dX11_back_62 : decode cX11_back 62 = .ok (.iload_n 2, 1) := by decide +kernel
theorem dX11_back_63 : decode cX11_back 63 = .ok (.iconst 4, 1) := by decide +kernel
theorem dX11_back_64 : decode cX11_back 64 = .ok (.if_icmp .ge 18, 3) := by decide +kernel
theorem dX11_back_67 : decode cX11_back 67 = .ok (.aload_n 0, 1) := by decide +kernel
theorem dX11_back_68 : decode cX11_back 68 = .ok (.iload_n 2, 1) := by decide +kernel
theorem dX11_back_69 : decode cX11_back 69 = .ok (.iconst 0, 1) := by decide +kernel
theorem dX11_back_70 : decode cX11_back 70 = .ok (.invokevirtual 270, 3) := by decide +kernel
theorem dX11_back_73 : decode cX11_back 73 = .ok (.ifCond .ne 9, 3) := by decide +kernel
theorem dX11_back_76 : decode cX11_back 76 = .ok (.iinc 2 1, 3) := by decide +kernel
theorem dX11_back_79 : decode cX11_back 79 = .ok (.goto (-17), 3) := by decide +kernel
theorem dX11_back_82 : decode cX11_back 82 = .ok (.iload_n 2, 1) := by decide +kernel
theorem dX11_back_83 : decode cX11_back 83 = .ok (.iconst 4, 1) := by decide +kernel
theorem dX11_back_84 : decode cX11_back 84 = .ok (.if_icmp .eq 8, 3) := by decide +kernel
theorem dX11_back_87 : decode cX11_back 87 = .ok (.iload_n 1, 1) := by decide +kernel
theorem dX11_back_88 : decode cX11_back 88 = .ok (.iload_n 2, 1) := by decide +kernel
theorem dX11_back_89 : decode cX11_back 89 = .ok (.if_icmp .lt 10, 3) := by decide +kernel
theorem dX11_back_92 : decode cX11_back 92 = .ok (.aload_n 0, 1) := by decide +kernel
theorem dX11_back_93 : decode cX11_back 93 = .ok (.ldc 195, 2) := by decide +kernel
theorem dX11_back_95 : decode cX11_back 95 = .ok (.invokevirtual 79, 3) := by decide +kernel
theorem dX11_back_98 : decode cX11_back 98 = .ok (.ireturn, 1) := by decide +kernel
theorem dX11_back_99 : decode cX11_back 99 = .ok (.iload_n 1, 1) := by decide +kernel
theorem dX11_back_100 : decode cX11_back 100 = .ok (.ifCond .ge 7, 3) := by decide +kernel
theorem dX11_back_103 : decode cX11_back 103 = .ok (.iload_n 2, 1) := by decide +kernel
theorem dX11_back_104 : decode cX11_back 104 = .ok (.goto 9, 3) := by decide +kernel
theorem dX11_back_107 : decode cX11_back 107 = .ok (.aload_n 0, 1) := by decide +kernel
theorem dX11_back_108 : decode cX11_back 108 = .ok (.getfield 32, 3) := by decide +kernel
theorem dX11_back_111 : decode cX11_back 111 = .ok (.iload_n 1, 1) := by decide +kernel
theorem dX11_back_112 : decode cX11_back 112 = .ok (.iaload, 1) := by decide +kernel
theorem dX11_back_113 : decode cX11_back 113 = .ok (.ireturn, 1) := by decide +kernel
theorem dX11_lights_0 : decode cX11_lights 0 = .ok (.aload_n 0, 1) := by decide +kernel
theorem dX11_lights_1 : decode cX11_lights 1 = .ok (.aload_n 0, 1) := by decide +kernel
theorem dX11_lights_2 : decode cX11_lights 2 = .ok (.getfield 7, 3) := by decide +kernel
theorem dX11_lights_5 : decode cX11_lights 5 = .ok (.aload_n 0, 1) := by decide +kernel
theorem dX11_lights_6 : decode cX11_lights 6 = .ok (.getfield 16, 3) := by decide +kernel
theorem dX11_lights_9 : decode cX11_lights 9 = .ok (.invokevirtual 188, 3) := by decide +kernel
theorem dX11_lights_12 : decode cX11_lights 12 = .ok (.iload_n 3, 1) := by decide +kernel
theorem dX11_lights_13 : decode cX11_lights 13 = .ok (.ifCond .lt 8, 3) := by decide +kernel
theorem dX11_lights_16 : decode cX11_lights 16 = .ok (.aload_n 0, 1) := by decide +kernel
theorem dX11_lights_17 : decode cX11_lights 17 = .ok (.iload_n 3, 1) := by decide +kernel
theorem dX11_lights_18 : decode cX11_lights 18 = .ok (.invokevirtual 125, 3) := by decide +kernel
theorem dX11_lights_21 : decode cX11_lights 21 = .ok (.iload 4, 2) := by decide +kernel
theorem dX11_lights_23 : decode cX11_lights 23 = .ok (.ifCond .lt 9, 3) := by decide +kernel
theorem dX11_lights_26 : decode cX11_lights 26 = .ok (.aload_n 0, 1) := by decide +kernel
theorem dX11_lights_27 : decode cX11_lights 27 = .ok (.iload 4, 2) := by decide +kernel
theorem dX11_lights_29 : decode cX11_lights 29 = .ok (.invokevirtual 125, 3) := by decide +kernel
theorem dX11_lights_32 : decode cX11_lights 32 = .ok (.aload_n 0, 1) := by decide +kernel
theorem dX11_lights_33 : decode cX11_lights 33 = .ok (.iload_n 1, 1) := by decide +kernel
theorem dX11_lights_34 : decode cX11_lights 34 = .ok (.putfield 25, 3) := by decide +kernel
theorem dX11_lights_37 : decode cX11_lights 37 = .ok (.aload_n 0, 1) := by decide +kernel
theorem dX11_lights_38 : decode cX11_lights 38 = .ok (.iload_n 2, 1) := by decide +kernel
theorem dX11_lights_39 : decode cX11_lights 39 = .ok (.invokevirtual 179, 3) := by decide +kernel
theorem dX11_lights_42 : decode cX11_lights 42 = .ok (.istore 5, 2) := by decide +kernel
theorem dX11_lights_44 : decode cX11_lights 44 = .ok (.aload_n 0, 1) := by decide +kernel
theorem dX11_lights_45 : decode cX11_lights 45 = .ok (.iconst (-1), 1) := by decide +kernel
theorem dX11_lights_46 : decode cX11_lights 46 = .ok (.putfield 25, 3) := by decide +kernel
theorem dX11_lights_49 : decode cX11_lights 49 = .ok (.iload 5, 2) := by decide +kernel
theorem dX11_lights_51 : decode cX11_lights 51 = .ok (.ifCond .lt 14, 3) := by decide +kernel
theorem dX11_lights_54 : decode cX11_lights 54 = .ok (.aload_n 0, 1) := by decide +kernel
theorem dX11_lights_55 : decode cX11_lights 55 = .ok (.getfield 159, 3) := by decide +kernel
theorem dX11_lights_58 : decode cX11_lights 58 = .ok (.ifCond .eq 7, 3) := by decide +kernel
theorem dX11_lights_61 : decode cX11_lights 61 = .ok (.iconst 1, 1) := by decide +kernel
theorem dX11_lights_62 : decode cX11_lights 62 = .ok (.goto 4, 3) := by decide +kernel
theorem dX11_lights_65 : decode cX11_lights 65 = .ok (.iconst 0, 1) := by decide +kernel
theorem dX11_lights_66 : decode cX11_lights 66 = .ok (.istore 6, 2) := by decide +kernel
theorem dX11_lights_68 : decode cX11_lights 68 = .ok (.aload_n 0, 1) := by decide +kernel
theorem dX11_lights_69 : decode cX11_lights 69 = .ok (.aload_n 0, 1) := by decide +kernel
theorem dX11_lights_70 : decode cX11_lights 70 = .ok (.getfield 16, 3) := by decide +kernel
theorem dX11_lights_73 : decode cX11_lights 73 = .ok (.aload_n 0, 1) := by decide +kernel
theorem dX11_lights_74 : decode cX11_lights 74 = .ok (.getfield 7, 3) := by decide +kernel
theorem dX11_lights_77 : decode cX11_lights 77 = .ok (.invokevirtual 188, 3) := by decide +kernel
theorem dX11_lights_80 : decode cX11_lights 80 = .ok (.iload 6, 2) := by decide +kernel
theorem dX11_lights_82 : decode cX11_lights 82 = .ok (.ireturn, 1) := by decide +kernel
theorem dX11_findHands_0 : decode cX11_findHands 0 = .ok (.aload_n 0, 1) := by decide +kernel
theorem dX11_findHands_1 : decode cX11_findHands 1 = .ok (.aload_n 0, 1) := by decide +kernel
theorem dX11_findHands_2 : decode cX11_findHands 2 = .ok (.iload_n 1, 1) := by decide +kernel
theorem dX11_findHands_3 : decode cX11_findHands 3 = .ok (.iload_n 2, 1) := by decide +kernel
theorem dX11_findHands_4 : decode cX11_findHands 4 = .ok (.iconst (-1), 1) := by decide +kernel
theorem dX11_findHands_5 : decode cX11_findHands 5 = .ok (.iconst (-1), 1) := by decide +kernel
theorem dX11_findHands_6 : decode cX11_findHands 6 = .ok (.invokevirtual 280, 3) := by decide +kernel
theorem dX11_findHands_9 : decode cX11_findHands 9 = .ok (.ifCond .eq 7, 3) := by decide +kernel
theorem dX11_findHands_12 : decode cX11_findHands 12 = .ok (.iconst 0, 1) := by decide +kernel
theorem dX11_findHands_13 : decode cX11_findHands 13 = .ok (.goto 4, 3) := by decide +kernel
theorem dX11_findHands_16 : decode cX11_findHands 16 = .ok (.iconst (-1), 1) := by decide +kernel
theorem dX11_findHands_17 : decode cX11_findHands 17 = .ok (.putfield 284, 3) := by decide +kernel
theorem dX11_findHands_20 : decode cX11_findHands 20 = .ok (.aload_n 0, 1) := by decide +kernel
theorem dX11_findHands_21 : decode cX11_findHands 21 = .ok (.iconst (-1), 1) := by decide +kernel
theorem dX11_findHands_22 : decode cX11_findHands 22 = .ok (.putfield 287, 3) := by decide +kernel
theorem dX11_findHands_25 : decode cX11_findHands 25 = .ok (.aload_n 0, 1) := by decide +kernel
theorem dX11_findHands_26 : decode cX11_findHands 26 = .ok (.iconst 0, 1) := by decide +kernel
theorem dX11_findHands_27 : decode cX11_findHands 27 = .ok (.putfield 290, 3) := by decide +kernel
theorem dX11_findHands_30 : decode cX11_findHands 30 = .ok (.iconst 0, 1) := by decide +kernel
theorem dX11_findHands_31 : decode cX11_findHands 31 = .ok (.istore_n 3, 1) := by decide +kernel
theorem dX11_findHands_32 : decode cX11_findHands 32 = .ok (.iload_n 3, 1) := by decide +kernel
theorem dX11_findHands_33 : decode cX11_findHands 33 = .ok (.aload_n 0, 1) := by decide +kernel
theorem dX11_findHands_34 : decode cX11_findHands 34 = .ok (.invokevirtual 67, 3) := by decide +kernel
theorem dX11_findHands_37 : decode cX11_findHands 37 = .ok (.if_icmp .ge 88, 3) := by decide +kernel
theorem dX11_findHands_40 : decode cX11_findHands 40 = .ok (.aload_n 0, 1) := by decide +kernel
theorem dX11_findHands_41 : decode cX11_findHands 41 = .ok (.getfield 284, 3) := by decide +kernel
theorem dX11_findHands_44 : decode cX11_findHands 44 = .ok (.ifCond .eq 81, 3) := by decide +kernel
theorem dX11_findHands_47 : decode cX11_findHands 47 = .ok (.aload_n 0, 1) := by decide +kernel
theorem dX11_findHands_48 : decode cX11_findHands 48 = .ok (.iload_n 3, 1) := by decide +kernel
theorem dX11_findHands_49 : decode cX11_findHands 49 = .ok (.invokevirtual 99, 3) := by decide +kernel
theorem dX11_findHands_52 : decode cX11_findHands 52 = .ok (.ifCond .eq 37, 3) := by decide +kernel
theorem dX11_findHands_55 : decode cX11_findHands 55 = .ok (.aload_n 0, 1) := by decide +kernel
theorem dX11_findHands_56 : decode cX11_findHands 56 = .ok (.getfield 284, 3) := by decide +kernel
theorem dX11_findHands_59 : decode cX11_findHands 59 = .ok (.ifCond .lt 15, 3) := by decide +kernel
theorem dX11_findHands_62 : decode cX11_findHands 62 = .ok (.aload_n 0, 1) := by decide +kernel
theorem dX11_findHands_63 : decode cX11_findHands 63 = .ok (.iload_n 3, 1) := by decide +kernel
theorem dX11_findHands_64 : decode cX11_findHands 64 = .ok (.invokevirtual 102, 3) := by decide +kernel
theorem dX11_findHands_67 : decode cX11_findHands 67 = .ok (.aload_n 0, 1) := by decide +kernel
theorem dX11_findHands_68 : decode cX11_findHands 68 = .ok (.getfield 290, 3) := by decide +kernel
theorem dX11_findHands_71 : decode cX11_findHands 71 = .ok (.if_icmp .ge 18, 3) := by decide +kernel
theorem dX11_findHands_74 : decode cX11_findHands 74 = .ok (.aload_n 0, 1) := by decide +kernel
theorem dX11_findHands_75 : decode cX11_findHands 75 = .ok (.iload_n 1, 1) := by decide +kernel
theorem dX11_findHands_76 : decode cX11_findHands 76 = .ok (.iload_n 2, 1) := by decide +kernel
theorem dX11_findHands_77 : decode cX11_findHands 77 = .ok (.iload_n 3, 1) := by decide +kernel
theorem dX11_findHands_78 : decode cX11_findHands 78 = .ok (.iconst (-1), 1) := by decide +kernel
theorem dX11_findHands_79 : decode cX11_findHands 79 = .ok (.invokevirtual 280, 3) := by decide +kernel
theorem dX11_findHands_82 : decode cX11_findHands 82 = .ok (.ifCond .eq 7, 3) := by decide +kernel
theorem dX11_findHands_85 : decode cX11_findHands 85 = .ok (.iconst 1, 1) := by decide +kernel
theorem dX11_findHands_86 : decode cX11_findHands 86 = .ok (.goto 4, 3) := by decide +kernel
theorem dX11_findHands_89 : decode cX11_findHands 89 = .ok (.iconst 0, 1) := by decide +kernel
theorem dX11_findHands_90 : decode cX11_findHands 90 = .ok (.istore 4, 2) := by decide +kernel
theorem dX11_findHands_92 : decode cX11_findHands 92 = .ok (.iload 4, 2) := by decide +kernel
theorem dX11_findHands_94 : decode cX11_findHands 94 = .ok (.ifCond .eq 25, 3) := by decide +kernel
theorem dX11_findHands_97 : decode cX11_findHands 97 = .ok (.aload_n 0, 1) := by decide +kernel
theorem dX11_findHands_98 : decode cX11_findHands 98 = .ok (.iconst 1, 1) := by decide +kernel
theorem dX11_findHands_99 : decode cX11_findHands 99 = .ok (.putfield 284, 3) := by decide +kernel
theorem dX11_findHands_102 : decode cX11_findHands 102 = .ok (.aload_n 0, 1) := by decide +kernel
theorem dX11_findHands_103 : decode cX11_findHands 103 = .ok (.bipush 101, 2) := by decide +kernel
theorem dX11_findHands_105 : decode cX11_findHands 105 = .ok (.iload_n 3, 1) := by decide +kernel
theorem dX11_findHands_106 : decode cX11_findHands 106 = .ok (.imul, 1) := by decide +kernel
theorem dX11_findHands_107 : decode cX11_findHands 107 = .ok (.putfield 287, 3) := by decide +kernel
theorem dX11_findHands_110 : decode cX11_findHands 110 = .ok (.aload_n 0, 1) := by decide +kernel
theorem dX11_findHands_111 : decode cX11_findHands 111 = .ok (.aload_n 0, 1) := by decide +kernel
theorem dX11_findHands_112 : decode cX11_findHands 112 = .ok (.iload_n 3, 1) := by decide +kernel
theorem dX11_findHands_113 : decode cX11_findHands 113 = .ok (.invokevirtual 102, 3) := by decide +kernel
theorem dX11_findHands_116 : decode cX11_findHands 116 = .ok (.putfield 290, 3) := by decide +kernel
theorem dX11_findHands_119 : decode cX11_findHands 119 = .ok (.iinc 3 1, 3) := by decide +kernel
theorem dX11_findHands_122 : decode cX11_findHands 122 = .ok (.goto (-90), 3) := by decide +kernel
theorem dX11_findHands_125 : decode cX11_findHands 125 = .ok (.aload_n 0, 1) := by decide +kernel
theorem dX11_findHands_126 : decode cX11_findHands 126 = .ok (.getfield 284, 3) := by decide +kernel
theorem dX11_findHands_129 : decode cX11_findHands 129 = .ok (.ifCond .lt 4, 3) := by decide +kernel
theorem dX11_findHands_132 : decode cX11_findHands 132 = .ok (.return_, 1) := by decide +kernel
theorem dX11_findHands_133 : decode cX11_findHands 133 = .ok (.iconst 0, 1) := by decide +kernel
theorem dX11_findHands_134 : decode cX11_findHands 134 = .ok (.istore_n 3, 1) := by decide +kernel
theorem dX11_findHands_135 : decode cX11_findHands 135 = .ok (.iload_n 3, 1) := by decide +kernel
theorem dX11_findHands_136 : decode cX11_findHands 136 = .ok (.aload_n 0, 1) := by decide +kernel
theorem dX11_findHands_137 : decode cX11_findHands 137 = .ok (.invokevirtual 67, 3) := by decide +kernel
theorem dX11_findHands_140 : decode cX11_findHands 140 = .ok (.if_icmp .ge 128, 3) := by decide +kernel
theorem dX11_findHands_143 : decode cX11_findHands 143 = .ok (.iload_n 3, 1) := by decide +kernel
theorem dX11_findHands_144 : decode cX11_findHands 144 = .ok (.iconst 1, 1) := by decide +kernel
theorem dX11_findHands_145 : decode cX11_findHands 145 = .ok (.iadd, 1) := by decide +kernel
theorem dX11_findHands_146 : decode cX11_findHands 146 = .ok (.istore 4, 2) := by decide +kernel
theorem dX11_findHands_148 : decode cX11_findHands 148 = .ok (.iload 4, 2) := by decide +kernel
theorem dX11_findHands_150 : decode cX11_findHands 150 = .ok (.aload_n 0, 1) := by decide +kernel
theorem dX11_findHands_151 : decode cX11_findHands 151 = .ok (.invokevirtual 67, 3) := by decide +kernel
theorem dX11_findHands_154 : decode cX11_findHands 154 = .ok (.if_icmp .ge 108, 3) := by decide +kernel
theorem dX11_findHands_157 : decode cX11_findHands 157 = .ok (.aload_n 0, 1) := by decide +kernel
theorem dX11_findHands_158 : decode cX11_findHands 158 = .ok (.iload_n 3, 1) := by decide +kernel
theorem dX11_findHands_159 : decode cX11_findHands 159 = .ok (.invokevirtual 99, 3) := by decide +kernel
theorem dX11_findHands_162 : decode cX11_findHands 162 = .ok (.ifCond .eq 54, 3) := by decide +kernel
theorem dX11_findHands_165 : decode cX11_findHands 165 = .ok (.aload_n 0, 1) := by decide +kernel
theorem dX11_findHands_166 : decode cX11_findHands 166 = .ok (.iload 4, 2) := by decide +kernel
theorem dX11_findHands_168 : decode cX11_findHands 168 = .ok (.invokevirtual 99, 3) := by decide +kernel
theorem dX11_findHands_171 : decode cX11_findHands 171 = .ok (.ifCond .eq 45, 3) := by decide +kernel
theorem dX11_findHands_174 : decode cX11_findHands 174 = .ok (.aload_n 0, 1) := by decide +kernel
theorem dX11_findHands_175 : decode cX11_findHands 175 = .ok (.getfield 284, 3) := by decide +kernel
theorem dX11_findHands_178 : decode cX11_findHands 178 = .ok (.ifCond .lt 22, 3) := by decide +kernel
theorem dX11_findHands_181 : decode cX11_findHands 181 = .ok (.aload_n 0, 1) := by decide +kernel
theorem dX11_findHands_182 : decode cX11_findHands 182 = .ok (.iload_n 3, 1) := by decide +kernel
theorem dX11_findHands_183 : decode cX11_findHands 183 = .ok (.invokevirtual 102, 3) := by decide +kernel
theorem dX11_findHands_186 : decode cX11_findHands 186 = .ok (.aload_n 0, 1) := by decide +kernel
theorem dX11_findHands_187 : decode cX11_findHands 187 = .ok (.iload 4, 2) := by decide +kernel
theorem dX11_findHands_189 : decode cX11_findHands 189 = .ok (.invokevirtual 102, 3) := by decide +kernel
theorem dX11_findHands_192 : decode cX11_findHands 192 = .ok (.iadd, 1) := by decide +kernel
theorem dX11_findHands_193 : decode cX11_findHands 193 = .ok (.aload_n 0, 1) := by decide +kernel
theorem dX11_findHands_194 : decode cX11_findHands 194 = .ok (.getfield 290, 3) := by decide +kernel
theorem dX11_findHands_197 : decode cX11_findHands 197 = .ok (.if_icmp .ge 19, 3) := by decide +kernel
theorem dX11_findHands_200 : decode cX11_findHands 200 = .ok (.aload_n 0, 1) := by decide +kernel
theorem dX11_findHands_201 : decode cX11_findHands 201 = .ok (.iload_n 1, 1) := by decide +kernel
theorem dX11_findHands_202 : decode cX11_findHands 202 = .ok (.iload_n 2, 1) := by decide +kernel
theorem dX11_findHands_203 : decode cX11_findHands 203 = .ok (.iload_n 3, 1) := by decide +kernel
theorem dX11_findHands_204 : decode cX11_findHands 204 = .ok (.iload 4, 2) := by decide +kernel
theorem dX11_findHands_206 : decode cX11_findHands 206 = .ok (.invokevirtual 280, 3) := by decide +kernel
theorem dX11_findHands_209 : decode cX11_findHands 209 = .ok (.ifCond .eq 7, 3) := by decide +kernel
theorem dX11_findHands_212 : decode cX11_findHands 212 = .ok (.iconst 1, 1) := by decide +kernel
theorem dX11_findHands_213 : decode cX11_findHands 213 = .ok (.goto 4, 3) := by decide +kernel
theorem dX11_findHands_216 : decode cX11_findHands 216 = .ok (.iconst 0, 1) := by decide +kernel
theorem dX11_findHands_217 : decode cX11_findHands 217 = .ok (.istore 5, 2) := by decide +kernel
theorem dX11_findHands_219 : decode cX11_findHands 219 = .ok (.iload 5, 2) := by decide +kernel
theorem dX11_findHands_221 : decode cX11_findHands 221 = .ok (.ifCond .eq 35, 3) := by decide +kernel
theorem dX11_findHands_224 : decode cX11_findHands 224 = .ok (.aload_n 0, 1) := by decide +kernel
theorem dX11_findHands_225 : decode cX11_findHands 225 = .ok (.iconst 2, 1) := by decide +kernel
theorem dX11_findHands_226 : decode cX11_findHands 226 = .ok (.putfield 284, 3) := by decide +kernel
theorem dX11_findHands_229 : decode cX11_findHands 229 = .ok (.aload_n 0, 1) := by decide +kernel
theorem dX11_findHands_230 : decode cX11_findHands 230 = .ok (.bipush 100, 2) := by decide +kernel
theorem dX11_findHands_232 : decode cX11_findHands 232 = .ok (.iload_n 3, 1) := by decide +kernel
theorem dX11_findHands_233 : decode cX11_findHands 233 = .ok (.imul, 1) := by decide +kernel
theorem dX11_findHands_234 : decode cX11_findHands 234 = .ok (.iload 4, 2) := by decide +kernel
theorem dX11_findHands_236 : decode cX11_findHands 236 = .ok (.iadd, 1) := by decide +kernel
theorem dX11_findHands_237 : decode cX11_findHands 237 = .ok (.putfield 287, 3) := by decide +kernel
theorem dX11_findHands_240 : decode cX11_findHands 240 = .ok (.aload_n 0, 1) := by decide +kernel
theorem dX11_findHands_241 : decode cX11_findHands 241 = .ok (.aload_n 0, 1) := by decide +kernel
theorem dX11_findHands_242 : decode cX11_findHands 242 = .ok (.iload_n 3, 1) := by decide +kernel
theorem dX11_findHands_243 : decode cX11_findHands 243 = .ok (.invokevirtual 102, 3) := by decide +kernel
theorem dX11_findHands_246 : decode cX11_findHands 246 = .ok (.aload_n 0, 1) := by decide +kernel
theorem dX11_findHands_247 : decode cX11_findHands 247 = .ok (.iload 4, 2) := by decide +kernel
theorem dX11_findHands_249 : decode cX11_findHands 249 = .ok (.invokevirtual 102, 3) := by decide +kernel
theorem dX11_findHands_252 : decode cX11_findHands 252 = .ok (.iadd, 1) := by decide +kernel
theorem dX11_findHands_253 : decode cX11_findHands 253 = .ok (.putfield 290, 3) := by decide +kernel
theorem dX11_findHands_256 : decode cX11_findHands 256 = .ok (.iinc 4 1, 3) := by decide +kernel
theorem dX11_findHands_259 : decode cX11_findHands 259 = .ok (.goto (-111), 3) := by decide +kernel
theorem dX11_findHands_262 : decode cX11_findHands 262 = .ok (.iinc 3 1, 3) := by decide +kernel
theorem dX11_findHands_265 : decode cX11_findHands 265 = .ok (.goto (-130), 3) := by decide +kernel
theorem dX11_findHands_268 : decode cX11_findHands 268 = .ok (.return_, 1) := by decide +kernel
theorem dX11_throne_0 : decode cX11_throne 0 = .ok (.aload_n 0, 1) := by decide +kernel
theorem dX11_throne_1 : decode cX11_throne 1 = .ok (.iload_n 1, 1) := by decide +kernel
theorem dX11_throne_2 : decode cX11_throne 2 = .ok (.invokevirtual 83, 3) := by decide +kernel
theorem dX11_throne_5 : decode cX11_throne 5 = .ok (.ifCond .eq 20, 3) := by decide +kernel
theorem dX11_throne_8 : decode cX11_throne 8 = .ok (.aload_n 0, 1) := by decide +kernel
theorem dX11_throne_9 : decode cX11_throne 9 = .ok (.iload_n 2, 1) := by decide +kernel
theorem dX11_throne_10 : decode cX11_throne 10 = .ok (.invokevirtual 182, 3) := by decide +kernel
theorem dX11_throne_13 : decode cX11_throne 13 = .ok (.ifCond .eq 12, 3) := by decide +kernel
theorem dX11_throne_16 : decode cX11_throne 16 = .ok (.iload_n 3, 1) := by decide +kernel
theorem dX11_throne_17 : decode cX11_throne 17 = .ok (.iconst 0, 1) := by decide +kernel
theorem dX11_throne_18 : decode cX11_throne 18 = .ok (.iconst 2, 1) := by decide +kernel
theorem dX11_throne_19 : decode cX11_throne 19 = .ok (.invokestatic 71, 3) := by decide +kernel
theorem dX11_throne_22 : decode cX11_throne 22 = .ok (.ifCond .ne 10, 3) := by decide +kernel
theorem dX11_throne_25 : decode cX11_throne 25 = .ok (.aload_n 0, 1) := by decide +kernel
theorem dX11_throne_26 : decode cX11_throne 26 = .ok (.ldc 78, 2) := by decide +kernel
theorem dX11_throne_28 : decode cX11_throne 28 = .ok (.invokevirtual 79, 3) := by decide +kernel
theorem dX11_throne_31 : decode cX11_throne 31 = .ok (.ireturn, 1) := by decide +kernel
theorem dX11_throne_32 : decode cX11_throne 32 = .ok (.aload_n 0, 1) := by decide +kernel
theorem dX11_throne_33 : decode cX11_throne 33 = .ok (.iload_n 1, 1) := by decide +kernel
theorem dX11_throne_34 : decode cX11_throne 34 = .ok (.iload_n 2, 1) := by decide +kernel
theorem dX11_throne_35 : decode cX11_throne 35 = .ok (.invokevirtual 293, 3) := by decide +kernel
theorem dX11_throne_38 : decode cX11_throne 38 = .ok (.aload_n 0, 1) := by decide +kernel
theorem dX11_throne_39 : decode cX11_throne 39 = .ok (.getfield 284, 3) := by decide +kernel
theorem dX11_throne_42 : decode cX11_throne 42 = .ok (.ifCond .ge 10, 3) := by decide +kernel
theorem dX11_throne_45 : decode cX11_throne 45 = .ok (.aload_n 0, 1) := by decide +kernel
theorem dX11_throne_46 : decode cX11_throne 46 = .ok (.ldc 195, 2) := by decide +kernel
theorem dX11_throne_48 : decode cX11_throne 48 = .ok (.invokevirtual 79, 3) := by decide +kernel
theorem dX11_throne_51 : decode cX11_throne 51 = .ok (.ireturn, 1) := by decide +kernel
theorem dX11_throne_52 : decode cX11_throne 52 = .ok (.iload_n 3, 1) := by decide +kernel
theorem dX11_throne_53 : decode cX11_throne 53 = .ok (.ifCond .ne 10, 3) := by decide +kernel
theorem dX11_throne_56 : decode cX11_throne 56 = .ok (.aload_n 0, 1) := by decide +kernel
theorem dX11_throne_57 : decode cX11_throne 57 = .ok (.getfield 284, 3) := by decide +kernel
theorem dX11_throne_60 : decode cX11_throne 60 = .ok (.goto 19, 3) := by decide +kernel
theorem dX11_throne_63 : decode cX11_throne 63 = .ok (.iload_n 3, 1) := by decide +kernel
theorem dX11_throne_64 : decode cX11_throne 64 = .ok (.iconst 1, 1) := by decide +kernel
theorem dX11_throne_65 : decode cX11_throne 65 = .ok (.if_icmp .ne 10, 3) := by decide +kernel
theorem dX11_throne_68 : decode cX11_throne 68 = .ok (.aload_n 0, 1) := by decide +kernel
theorem dX11_throne_69 : decode cX11_throne 69 = .ok (.getfield 287, 3) := by decide +kernel
theorem dX11_throne_72 : decode cX11_throne 72 = .ok (.goto 7, 3) := by decide +kernel
theorem dX11_throne_75 : decode cX11_throne 75 = .ok (.aload_n 0, 1) := by decide +kernel
theorem dX11_throne_76 : decode cX11_throne 76 = .ok (.getfield 290, 3) := by decide +kernel
theorem dX11_throne_79 : decode cX11_throne 79 = .ok (.ireturn, 1) := by decide +kernel
theorem dX11_timeBits_0 : decode cX11_timeBits 0 = .ok (.lconst 0, 1) := by decide +kernel
theorem dX11_timeBits_1 : decode cX11_timeBits 1 = .ok (.lstore_n 1, 1) := by decide +kernel
theorem dX11_timeBits_2 : decode cX11_timeBits 2 = .ok (.iconst 0, 1) := by decide +kernel
theorem dX11_timeBits_3 : decode cX11_timeBits 3 = .ok (.istore_n 3, 1) := by decide +kernel
theorem dX11_timeBits_4 : decode cX11_timeBits 4 = .ok (.iload_n 3, 1) := by decide +kernel
theorem dX11_timeBits_5 : decode cX11_timeBits 5 = .ok (.aload_n 0, 1) := by decide +kernel
theorem dX11_timeBits_6 : decode cX11_timeBits 6 = .ok (.invokevirtual 67, 3) := by decide +kernel
theorem dX11_timeBits_9 : decode cX11_timeBits 9 = .ok (.if_icmp .ge 23, 3) := by decide +kernel
theorem dX11_timeBits_12 : decode cX11_timeBits 12 = .ok (.lload_n 1, 1) := by decide +kernel
theorem dX11_timeBits_13 : decode cX11_timeBits 13 = .ok (.aload_n 0, 1) := by decide +kernel
theorem dX11_timeBits_14 : decode cX11_timeBits 14 = .ok (.iload_n 3, 1) := by decide +kernel
theorem dX11_timeBits_15 : decode cX11_timeBits 15 = .ok (.iconst 3, 1) := by decide +kernel
theorem dX11_timeBits_16 : decode cX11_timeBits 16 = .ok (.invokevirtual 87, 3) := by decide +kernel
theorem dX11_timeBits_19 : decode cX11_timeBits 19 = .ok (.i2l, 1) := by decide +kernel
theorem dX11_timeBits_20 : decode cX11_timeBits 20 = .ok (.iconst 2, 1) := by decide +kernel
theorem dX11_timeBits_21 : decode cX11_timeBits 21 = .ok (.iload_n 3, 1) := by decide +kernel
theorem dX11_timeBits_22 : decode cX11_timeBits 22 = .ok (.imul, 1) := by decide +kernel
theorem dX11_timeBits_23 : decode cX11_timeBits 23 = .ok (.lshl, 1) := by decide +kernel
theorem dX11_timeBits_24 : decode cX11_timeBits 24 = .ok (.lor, 1) := by decide +kernel
theorem dX11_timeBits_25 : decode cX11_timeBits 25 = .ok (.lstore_n 1, 1) := by decide +kernel
theorem dX11_timeBits_26 : decode cX11_timeBits 26 = .ok (.iinc 3 1, 3) := by decide +kernel
theorem dX11_timeBits_29 : decode cX11_timeBits 29 = .ok (.goto (-25), 3) := by decide +kernel
theorem dX11_timeBits_32 : decode cX11_timeBits 32 = .ok (.lload_n 1, 1) := by decide +kernel
theorem dX11_timeBits_33 : decode cX11_timeBits 33 = .ok (.lreturn, 1) := by decide +kernel
theorem dX11_meets_0 : decode cX11_meets 0 = .ok (.aload_n 0, 1) := by decide +kernel
theorem dX11_meets_1 : decode cX11_meets 1 = .ok (.invokevirtual 132, 3) := by decide +kernel
theorem dX11_meets_4 : decode cX11_meets 4 = .ok (.istore_n 1, 1) := by decide +kernel
theorem dX11_meets_5 : decode cX11_meets 5 = .ok (.aload_n 0, 1) := by decide +kernel
theorem dX11_meets_6 : decode cX11_meets 6 = .ok (.invokevirtual 296, 3) := by decide +kernel
theorem dX11_meets_9 : decode cX11_meets 9 = .ok (.lstore_n 2, 1) := by decide +kernel
theorem dX11_meets_10 : decode cX11_meets 10 = .ok (.aload_n 0, 1) := by decide +kernel
theorem dX11_meets_11 : decode cX11_meets 11 = .ok (.getfield 300, 3) := by decide +kernel
theorem dX11_meets_14 : decode cX11_meets 14 = .ok (.sipush 200, 3) := by decide +kernel
theorem dX11_meets_17 : decode cX11_meets 17 = .ok (.if_icmp .le 7, 3) := by decide +kernel
theorem dX11_meets_20 : decode cX11_meets 20 = .ok (.iconst 1, 1) := by decide +kernel
theorem dX11_meets_21 : decode cX11_meets 21 = .ok (.goto 4, 3) := by decide +kernel
theorem dX11_meets_24 : decode cX11_meets 24 = .ok (.iconst 0, 1) := by decide +kernel
theorem dX11_meets_25 : decode cX11_meets 25 = .ok (.istore 4, 2) := by decide +kernel
theorem dX11_meets_27 : decode cX11_meets 27 = .ok (.iconst 0, 1) := by decide +kernel
theorem dX11_meets_28 : decode cX11_meets 28 = .ok (.istore 5, 2) := by decide +kernel
theorem dX11_meets_30 : decode cX11_meets 30 = .ok (.iload 5, 2) := by decide +kernel
theorem dX11_meets_32 : decode cX11_meets 32 = .ok (.aload_n 0, 1) := by decide +kernel
theorem dX11_meets_33 : decode cX11_meets 33 = .ok (.getfield 300, 3) := by decide +kernel
theorem dX11_meets_36 : decode cX11_meets 36 = .ok (.if_icmp .ge 44, 3) := by decide +kernel
theorem dX11_meets_39 : decode cX11_meets 39 = .ok (.iload 4, 2) := by decide +kernel
theorem dX11_meets_41 : decode cX11_meets 41 = .ok (.ifCond .ne 39, 3) := by decide +kernel
theorem dX11_meets_44 : decode cX11_meets 44 = .ok (.aload_n 0, 1) := by decide +kernel
theorem dX11_meets_45 : decode cX11_meets 45 = .ok (.getfield 38, 3) := by decide +kernel
theorem dX11_meets_48 : decode cX11_meets 48 = .ok (.iload 5, 2) := by decide +kernel
theorem dX11_meets_50 : decode cX11_meets 50 = .ok (.iaload, 1) := by decide +kernel
theorem dX11_meets_51 : decode cX11_meets 51 = .ok (.iload_n 1, 1) := by decide +kernel
theorem dX11_meets_52 : decode cX11_meets 52 = .ok (.if_icmp .ne 19, 3) := by decide +kernel
theorem dX11_meets_55 : decode cX11_meets 55 = .ok (.aload_n 0, 1) := by decide +kernel
theorem dX11_meets_56 : decode cX11_meets 56 = .ok (.getfield 41, 3) := by decide +kernel
theorem dX11_meets_59 : decode cX11_meets 59 = .ok (.iload 5, 2) := by decide +kernel
theorem dX11_meets_61 : decode cX11_meets 61 = .ok (.laload, 1) := by decide +kernel
theorem dX11_meets_62 : decode cX11_meets 62 = .ok (.lload_n 2, 1) := by decide +kernel
theorem dX11_meets_63 : decode cX11_meets 63 = .ok (.lcmp, 1) := by decide +kernel
theorem dX11_meets_64 : decode cX11_meets 64 = .ok (.ifCond .ne 7, 3) := by decide +kernel
theorem dX11_meets_67 : decode cX11_meets 67 = .ok (.iconst 1, 1) := by decide +kernel
theorem dX11_meets_68 : decode cX11_meets 68 = .ok (.goto 4, 3) := by decide +kernel
theorem dX11_meets_71 : decode cX11_meets 71 = .ok (.iconst 0, 1) := by decide +kernel
theorem dX11_meets_72 : decode cX11_meets 72 = .ok (.istore 4, 2) := by decide +kernel
theorem dX11_meets_74 : decode cX11_meets 74 = .ok (.iinc 5 1, 3) := by decide +kernel
theorem dX11_meets_77 : decode cX11_meets 77 = .ok (.goto (-47), 3) := by decide +kernel
theorem dX11_meets_80 : decode cX11_meets 80 = .ok (.iload 4, 2) := by decide +kernel
theorem dX11_meets_82 : decode cX11_meets 82 = .ok (.ifCond .ne 33, 3) := by decide +kernel
theorem dX11_meets_85 : decode cX11_meets 85 = .ok (.aload_n 0, 1) := by decide +kernel
theorem dX11_meets_86 : decode cX11_meets 86 = .ok (.getfield 38, 3) := by decide +kernel
theorem dX11_meets_89 : decode cX11_meets 89 = .ok (.aload_n 0, 1) := by decide +kernel
theorem dX11_meets_90 : decode cX11_meets 90 = .ok (.getfield 300, 3) := by decide +kernel
theorem dX11_meets_93 : decode cX11_meets 93 = .ok (.iload_n 1, 1) := by decide +kernel
theorem dX11_meets_94 : decode cX11_meets 94 = .ok (.iastore, 1) := by decide +kernel
theorem dX11_meets_95 : decode cX11_meets 95 = .ok (.aload_n 0, 1) := by decide +kernel
theorem dX11_meets_96 : decode cX11_meets 96 = .ok (.getfield 41, 3) := by decide +kernel
theorem dX11_meets_99 : decode cX11_meets 99 = .ok (.aload_n 0, 1) := by decide +kernel
theorem dX11_meets_100 : decode cX11_meets 100 = .ok (.getfield 300, 3) := by decide +kernel
theorem dX11_meets_103 : decode cX11_meets 103 = .ok (.lload_n 2, 1) := by decide +kernel
theorem dX11_meets_104 : decode cX11_meets 104 = .ok (.lastore, 1) := by decide +kernel
theorem dX11_meets_105 : decode cX11_meets 105 = .ok (.aload_n 0, 1) := by decide +kernel
theorem dX11_meets_106 : decode cX11_meets 106 = .ok (.dup, 1) := by decide +kernel
theorem dX11_meets_107 : decode cX11_meets 107 = .ok (.getfield 300, 3) := by decide +kernel
theorem dX11_meets_110 : decode cX11_meets 110 = .ok (.iconst 1, 1) := by decide +kernel
theorem dX11_meets_111 : decode cX11_meets 111 = .ok (.iadd, 1) := by decide +kernel
theorem dX11_meets_112 : decode cX11_meets 112 = .ok (.putfield 300, 3) := by decide +kernel
theorem dX11_meets_115 : decode cX11_meets 115 = .ok (.return_, 1) := by decide +kernel
theorem dX11_standsAsMet_0 : decode cX11_standsAsMet 0 = .ok (.iconst 0, 1) := by decide +kernel
theorem dX11_standsAsMet_1 : decode cX11_standsAsMet 1 = .ok (.istore_n 2, 1) := by decide +kernel
theorem dX11_standsAsMet_2 : decode cX11_standsAsMet 2 = .ok (.iload_n 2, 1) := by decide +kernel
theorem dX11_standsAsMet_3 : decode cX11_standsAsMet 3 = .ok (.aload_n 0, 1) := by decide +kernel
theorem dX11_standsAsMet_4 : decode cX11_standsAsMet 4 = .ok (.invokevirtual 67, 3) := by decide +kernel
theorem dX11_standsAsMet_7 : decode cX11_standsAsMet 7 = .ok (.if_icmp .ge 46, 3) := by decide +kernel
theorem dX11_standsAsMet_10 : decode cX11_standsAsMet 10 = .ok (.aload_n 0, 1) := by decide +kernel
theorem dX11_standsAsMet_11 : decode cX11_standsAsMet 11 = .ok (.iload_n 2, 1) := by decide +kernel
theorem dX11_standsAsMet_12 : decode cX11_standsAsMet 12 = .ok (.iconst 2, 1) := by decide +kernel
theorem dX11_standsAsMet_13 : decode cX11_standsAsMet 13 = .ok (.aload_n 0, 1) := by decide +kernel
theorem dX11_standsAsMet_14 : decode cX11_standsAsMet 14 = .ok (.getfield 38, 3) := by decide +kernel
theorem dX11_standsAsMet_17 : decode cX11_standsAsMet 17 = .ok (.iload_n 1, 1) := by decide +kernel
theorem dX11_standsAsMet_18 : decode cX11_standsAsMet 18 = .ok (.iaload, 1) := by decide +kernel
theorem dX11_standsAsMet_19 : decode cX11_standsAsMet 19 = .ok (.iload_n 2, 1) := by decide +kernel
theorem dX11_standsAsMet_20 : decode cX11_standsAsMet 20 = .ok (.ishr, 1) := by decide +kernel
theorem dX11_standsAsMet_21 : decode cX11_standsAsMet 21 = .ok (.iconst 1, 1) := by decide +kernel
theorem dX11_standsAsMet_22 : decode cX11_standsAsMet 22 = .ok (.iand, 1) := by decide +kernel
theorem dX11_standsAsMet_23 : decode cX11_standsAsMet 23 = .ok (.invokevirtual 91, 3) := by decide +kernel
theorem dX11_standsAsMet_26 : decode cX11_standsAsMet 26 = .ok (.aload_n 0, 1) := by decide +kernel
theorem dX11_standsAsMet_27 : decode cX11_standsAsMet 27 = .ok (.iload_n 2, 1) := by decide +kernel
theorem dX11_standsAsMet_28 : decode cX11_standsAsMet 28 = .ok (.iconst 3, 1) := by decide +kernel
theorem dX11_standsAsMet_29 : decode cX11_standsAsMet 29 = .ok (.aload_n 0, 1) := by decide +kernel
theorem dX11_standsAsMet_30 : decode cX11_standsAsMet 30 = .ok (.getfield 41, 3) := by decide +kernel
theorem dX11_standsAsMet_33 : decode cX11_standsAsMet 33 = .ok (.iload_n 1, 1) := by decide +kernel
theorem dX11_standsAsMet_34 : decode cX11_standsAsMet 34 = .ok (.laload, 1) := by decide +kernel
theorem dX11_standsAsMet_35 : decode cX11_standsAsMet 35 = .ok (.iconst 2, 1) := by decide +kernel
theorem dX11_standsAsMet_36 : decode cX11_standsAsMet 36 = .ok (.iload_n 2, 1) := by decide +kernel
theorem dX11_standsAsMet_37 : decode cX11_standsAsMet 37 = .ok (.imul, 1) := by decide +kernel
theorem dX11_standsAsMet_38 : decode cX11_standsAsMet 38 = .ok (.lshr, 1) := by decide +kernel
theorem dX11_standsAsMet_39 : decode cX11_standsAsMet 39 = .ok (.ldc2_w 303, 3) := by decide +kernel
theorem dX11_standsAsMet_42 : decode cX11_standsAsMet 42 = .ok (.land, 1) := by decide +kernel
theorem dX11_standsAsMet_43 : decode cX11_standsAsMet 43 = .ok (.l2i, 1) := by decide +kernel
theorem dX11_standsAsMet_44 : decode cX11_standsAsMet 44 = .ok (.invokevirtual 91, 3) := by decide +kernel
theorem dX11_standsAsMet_47 : decode cX11_standsAsMet 47 = .ok (.iinc 2 1, 3) := by decide +kernel
theorem dX11_standsAsMet_50 : decode cX11_standsAsMet 50 = .ok (.goto (-48), 3) := by decide +kernel
theorem dX11_standsAsMet_53 : decode cX11_standsAsMet 53 = .ok (.return_, 1) := by decide +kernel
theorem dX11_had_0 : decode cX11_had 0 = .ok (.aload_n 0, 1) := by decide +kernel
theorem dX11_had_1 : decode cX11_had 1 = .ok (.aload_n 0, 1) := by decide +kernel
theorem dX11_had_2 : decode cX11_had 2 = .ok (.getfield 7, 3) := by decide +kernel
theorem dX11_had_5 : decode cX11_had 5 = .ok (.aload_n 0, 1) := by decide +kernel
theorem dX11_had_6 : decode cX11_had 6 = .ok (.getfield 16, 3) := by decide +kernel
theorem dX11_had_9 : decode cX11_had 9 = .ok (.invokevirtual 188, 3) := by decide +kernel
theorem dX11_had_12 : decode cX11_had 12 = .ok (.aload_n 0, 1) := by decide +kernel
theorem dX11_had_13 : decode cX11_had 13 = .ok (.iconst 0, 1) := by decide +kernel
theorem dX11_had_14 : decode cX11_had 14 = .ok (.putfield 300, 3) := by decide +kernel
theorem dX11_had_17 : decode cX11_had 17 = .ok (.aload_n 0, 1) := by decide +kernel
theorem dX11_had_18 : decode cX11_had 18 = .ok (.invokevirtual 305, 3) := by decide +kernel
theorem dX11_had_21 : decode cX11_had 21 = .ok (.iconst 0, 1) := by decide +kernel
theorem dX11_had_22 : decode cX11_had 22 = .ok (.istore_n 1, 1) := by decide +kernel
theorem dX11_had_23 : decode cX11_had 23 = .ok (.iload_n 1, 1) := by decide +kernel
theorem dX11_had_24 : decode cX11_had 24 = .ok (.aload_n 0, 1) := by decide +kernel
theorem dX11_had_25 : decode cX11_had 25 = .ok (.getfield 300, 3) := by decide +kernel
theorem dX11_had_28 : decode cX11_had 28 = .ok (.if_icmp .ge 64, 3) := by decide +kernel
theorem dX11_had_31 : decode cX11_had 31 = .ok (.aload_n 0, 1) := by decide +kernel
theorem dX11_had_32 : decode cX11_had 32 = .ok (.getfield 300, 3) := by decide +kernel
theorem dX11_had_35 : decode cX11_had 35 = .ok (.sipush 200, 3) := by decide +kernel
theorem dX11_had_38 : decode cX11_had 38 = .ok (.if_icmp .gt 54, 3) := by decide +kernel
theorem dX11_had_41 : decode cX11_had 41 = .ok (.iconst 0, 1) := by decide +kernel
theorem dX11_had_42 : decode cX11_had 42 = .ok (.istore_n 2, 1) := by decide +kernel
theorem dX11_had_43 : decode cX11_had 43 = .ok (.iload_n 2, 1) := by decide +kernel
theorem dX11_had_44 : decode cX11_had 44 = .ok (.aload_n 0, 1) := by decide +kernel
theorem dX11_had_45 : decode cX11_had 45 = .ok (.invokevirtual 75, 3) := by decide +kernel
theorem dX11_had_48 : decode cX11_had 48 = .ok (.if_icmp .ge 38, 3) := by decide +kernel
theorem dX11_had_51 : decode cX11_had 51 = .ok (.aload_n 0, 1) := by decide +kernel
theorem dX11_had_52 : decode cX11_had 52 = .ok (.getfield 300, 3) := by decide +kernel
theorem dX11_had_55 : decode cX11_had 55 = .ok (.sipush 200, 3) := by decide +kernel
theorem dX11_had_58 : decode cX11_had 58 = .ok (.if_icmp .gt 28, 3) := by decide +kernel
theorem dX11_had_61 : decode cX11_had 61 = .ok (.aload_n 0, 1) := by decide +kernel
theorem dX11_had_62 : decode cX11_had 62 = .ok (.iload_n 1, 1) := by decide +kernel
theorem dX11_had_63 : decode cX11_had 63 = .ok (.invokevirtual 308, 3) := by decide +kernel
theorem dX11_had_66 : decode cX11_had 66 = .ok (.aload_n 0, 1) := by decide +kernel
theorem dX11_had_67 : decode cX11_had 67 = .ok (.iload_n 2, 1) := by decide +kernel
theorem dX11_had_68 : decode cX11_had 68 = .ok (.invokevirtual 179, 3) := by decide +kernel
theorem dX11_had_71 : decode cX11_had 71 = .ok (.istore_n 3, 1) := by decide +kernel
theorem dX11_had_72 : decode cX11_had 72 = .ok (.iload_n 3, 1) := by decide +kernel
theorem dX11_had_73 : decode cX11_had 73 = .ok (.ifCond .lt 7, 3) := by decide +kernel
theorem dX11_had_76 : decode cX11_had 76 = .ok (.aload_n 0, 1) := by decide +kernel
theorem dX11_had_77 : decode cX11_had 77 = .ok (.invokevirtual 305, 3) := by decide +kernel
theorem dX11_had_80 : decode cX11_had 80 = .ok (.iinc 2 1, 3) := by decide +kernel
theorem dX11_had_83 : decode cX11_had 83 = .ok (.goto (-40), 3) := by decide +kernel
theorem dX11_had_86 : decode cX11_had 86 = .ok (.iinc 1 1, 3) := by decide +kernel
theorem dX11_had_89 : decode cX11_had 89 = .ok (.goto (-66), 3) := by decide +kernel
theorem dX11_had_92 : decode cX11_had 92 = .ok (.aload_n 0, 1) := by decide +kernel
theorem dX11_had_93 : decode cX11_had 93 = .ok (.aload_n 0, 1) := by decide +kernel
theorem dX11_had_94 : decode cX11_had 94 = .ok (.getfield 16, 3) := by decide +kernel
theorem dX11_had_97 : decode cX11_had 97 = .ok (.aload_n 0, 1) := by decide +kernel
theorem dX11_had_98 : decode cX11_had 98 = .ok (.getfield 7, 3) := by decide +kernel
theorem dX11_had_101 : decode cX11_had 101 = .ok (.invokevirtual 188, 3) := by decide +kernel
theorem dX11_had_104 : decode cX11_had 104 = .ok (.aload_n 0, 1) := by decide +kernel
theorem dX11_had_105 : decode cX11_had 105 = .ok (.getfield 300, 3) := by decide +kernel
theorem dX11_had_108 : decode cX11_had 108 = .ok (.sipush 200, 3) := by decide +kernel
theorem dX11_had_111 : decode cX11_had 111 = .ok (.if_icmp .le 13, 3) := by decide +kernel
theorem dX11_had_114 : decode cX11_had 114 = .ok (.aload_n 0, 1) := by decide +kernel
theorem dX11_had_115 : decode cX11_had 115 = .ok (.ldc_w 260, 3) := by decide +kernel
theorem dX11_had_118 : decode cX11_had 118 = .ok (.invokevirtual 79, 3) := by decide +kernel
theorem dX11_had_121 : decode cX11_had 121 = .ok (.goto 7, 3) := by decide +kernel
theorem dX11_had_124 : decode cX11_had 124 = .ok (.aload_n 0, 1) := by decide +kernel
theorem dX11_had_125 : decode cX11_had 125 = .ok (.getfield 300, 3) := by decide +kernel
theorem dX11_had_128 : decode cX11_had 128 = .ok (.ireturn, 1) := by decide +kernel
theorem dX11_findUnknown_0 : decode cX11_findUnknown 0 = .ok (.aload_n 0, 1) := by decide +kernel
theorem dX11_findUnknown_1 : decode cX11_findUnknown 1 = .ok (.iconst 0, 1) := by decide +kernel
theorem dX11_findUnknown_2 : decode cX11_findUnknown 2 = .ok (.putfield 311, 3) := by decide +kernel
theorem dX11_findUnknown_5 : decode cX11_findUnknown 5 = .ok (.iconst 0, 1) := by decide +kernel
theorem dX11_findUnknown_6 : decode cX11_findUnknown 6 = .ok (.istore_n 2, 1) := by decide +kernel
theorem dX11_findUnknown_7 : decode cX11_findUnknown 7 = .ok (.iload_n 2, 1) := by decide +kernel
theorem dX11_findUnknown_8 : decode cX11_findUnknown 8 = .ok (.aload_n 0, 1) := by decide +kernel
theorem dX11_findUnknown_9 : decode cX11_findUnknown 9 = .ok (.invokevirtual 67, 3) := by decide +kernel
theorem dX11_findUnknown_12 : decode cX11_findUnknown 12 = .ok (.if_icmp .ge 54, 3) := by decide +kernel
theorem dX11_findUnknown_15 : decode cX11_findUnknown 15 = .ok (.aload_n 0, 1) := by decide +kernel
theorem dX11_findUnknown_16 : decode cX11_findUnknown 16 = .ok (.getfield 311, 3) := by decide +kernel
theorem dX11_findUnknown_19 : decode cX11_findUnknown 19 = .ok (.iconst 5, 1) := by decide +kernel
theorem dX11_findUnknown_20 : decode cX11_findUnknown 20 = .ok (.if_icmp .ge 46, 3) := by decide +kernel
theorem dX11_findUnknown_23 : decode cX11_findUnknown 23 = .ok (.iload_n 1, 1) := by decide +kernel
theorem dX11_findUnknown_24 : decode cX11_findUnknown 24 = .ok (.iload_n 2, 1) := by decide +kernel
theorem dX11_findUnknown_25 : decode cX11_findUnknown 25 = .ok (.ishr, 1) := by decide +kernel
theorem dX11_findUnknown_26 : decode cX11_findUnknown 26 = .ok (.iconst 1, 1) := by decide +kernel
theorem dX11_findUnknown_27 : decode cX11_findUnknown 27 = .ok (.iand, 1) := by decide +kernel
theorem dX11_findUnknown_28 : decode cX11_findUnknown 28 = .ok (.iconst 1, 1) := by decide +kernel
theorem dX11_findUnknown_29 : decode cX11_findUnknown 29 = .ok (.if_icmp .ne 31, 3) := by decide +kernel
theorem dX11_findUnknown_32 : decode cX11_findUnknown 32 = .ok (.aload_n 0, 1) := by decide +kernel
theorem dX11_findUnknown_33 : decode cX11_findUnknown 33 = .ok (.iload_n 2, 1) := by decide +kernel
theorem dX11_findUnknown_34 : decode cX11_findUnknown 34 = .ok (.invokevirtual 105, 3) := by decide +kernel
theorem dX11_findUnknown_37 : decode cX11_findUnknown 37 = .ok (.ifCond .eq 23, 3) := by decide +kernel
theorem dX11_findUnknown_40 : decode cX11_findUnknown 40 = .ok (.aload_n 0, 1) := by decide +kernel
theorem dX11_findUnknown_41 : decode cX11_findUnknown 41 = .ok (.getfield 45, 3) := by decide +kernel
theorem dX11_findUnknown_44 : decode cX11_findUnknown 44 = .ok (.aload_n 0, 1) := by decide +kernel
theorem dX11_findUnknown_45 : decode cX11_findUnknown 45 = .ok (.getfield 311, 3) := by decide +kernel
theorem dX11_findUnknown_48 : decode cX11_findUnknown 48 = .ok (.iload_n 2, 1) := by decide +kernel
theorem dX11_findUnknown_49 : decode cX11_findUnknown 49 = .ok (.iastore, 1) := by decide +kernel
theorem dX11_findUnknown_50 : decode cX11_findUnknown 50 = .ok (.aload_n 0, 1) := by decide +kernel
theorem dX11_findUnknown_51 : decode cX11_findUnknown 51 = .ok (.dup, 1) := by decide +kernel
theorem dX11_findUnknown_52 : decode cX11_findUnknown 52 = .ok (.getfield 311, 3) := by decide +kernel
theorem dX11_findUnknown_55 : decode cX11_findUnknown 55 = .ok (.iconst 1, 1) := by decide +kernel
theorem dX11_findUnknown_56 : decode cX11_findUnknown 56 = .ok (.iadd, 1) := by decide +kernel
theorem dX11_findUnknown_57 : decode cX11_findUnknown 57 = .ok (.putfield 311, 3) := by decide +kernel
theorem dX11_findUnknown_60 : decode cX11_findUnknown 60 = .ok (.iinc 2 1, 3) := by decide +kernel
theorem dX11_findUnknown_63 : decode cX11_findUnknown 63 = .ok (.goto (-56), 3) := by decide +kernel
theorem dX11_findUnknown_66 : decode cX11_findUnknown 66 = .ok (.return_, 1) := by decide +kernel
theorem dX11_slantsAre_0 : decode cX11_slantsAre 0 = .ok (.iconst 0, 1) := by decide +kernel
theorem dX11_slantsAre_1 : decode cX11_slantsAre 1 = .ok (.istore_n 2, 1) := by decide +kernel
theorem dX11_slantsAre_2 : decode cX11_slantsAre 2 = .ok (.iload_n 2, 1) := by decide +kernel
theorem dX11_slantsAre_3 : decode cX11_slantsAre 3 = .ok (.aload_n 0, 1) := by decide +kernel
theorem dX11_slantsAre_4 : decode cX11_slantsAre 4 = .ok (.getfield 311, 3) := by decide +kernel
theorem dX11_slantsAre_7 : decode cX11_slantsAre 7 = .ok (.if_icmp .ge 25, 3) := by decide +kernel
theorem dX11_slantsAre_10 : decode cX11_slantsAre 10 = .ok (.aload_n 0, 1) := by decide +kernel
theorem dX11_slantsAre_11 : decode cX11_slantsAre 11 = .ok (.aload_n 0, 1) := by decide +kernel
theorem dX11_slantsAre_12 : decode cX11_slantsAre 12 = .ok (.getfield 45, 3) := by decide +kernel
theorem dX11_slantsAre_15 : decode cX11_slantsAre 15 = .ok (.iload_n 2, 1) := by decide +kernel
theorem dX11_slantsAre_16 : decode cX11_slantsAre 16 = .ok (.iaload, 1) := by decide +kernel
theorem dX11_slantsAre_17 : decode cX11_slantsAre 17 = .ok (.iconst 2, 1) := by decide +kernel
theorem dX11_slantsAre_18 : decode cX11_slantsAre 18 = .ok (.iload_n 1, 1) := by decide +kernel
theorem dX11_slantsAre_19 : decode cX11_slantsAre 19 = .ok (.iload_n 2, 1) := by decide +kernel
theorem dX11_slantsAre_20 : decode cX11_slantsAre 20 = .ok (.ishr, 1) := by decide +kernel
theorem dX11_slantsAre_21 : decode cX11_slantsAre 21 = .ok (.iconst 1, 1) := by decide +kernel
theorem dX11_slantsAre_22 : decode cX11_slantsAre 22 = .ok (.iand, 1) := by decide +kernel
theorem dX11_slantsAre_23 : decode cX11_slantsAre 23 = .ok (.invokevirtual 91, 3) := by decide +kernel
theorem dX11_slantsAre_26 : decode cX11_slantsAre 26 = .ok (.iinc 2 1, 3) := by decide +kernel
theorem dX11_slantsAre_29 : decode cX11_slantsAre 29 = .ok (.goto (-27), 3) := by decide +kernel
theorem dX11_slantsAre_32 : decode cX11_slantsAre 32 = .ok (.return_, 1) := by decide +kernel
theorem dX11_isMask_0 : decode cX11_isMask 0 = .ok (.iload_n 1, 1) := by decide +kernel
theorem dX11_isMask_1 : decode cX11_isMask 1 = .ok (.iconst 0, 1) := by decide +kernel
theorem dX11_isMask_2 : decode cX11_isMask 2 = .ok (.iconst 1, 1) := by decide +kernel
theorem dX11_isMask_3 : decode cX11_isMask 3 = .ok (.aload_n 0, 1) := by decide +kernel
theorem dX11_isMask_4 : decode cX11_isMask 4 = .ok (.invokevirtual 67, 3) := by decide +kernel
theorem dX11_isMask_7 : decode cX11_isMask 7 = .ok (.ishl, 1) := by decide +kernel
theorem dX11_isMask_8 : decode cX11_isMask 8 = .ok (.iconst 1, 1) := by decide +kernel
theorem dX11_isMask_9 : decode cX11_isMask 9 = .ok (.isub, 1) := by decide +kernel
theorem dX11_isMask_10 : decode cX11_isMask 10 = .ok (.invokestatic 71, 3) := by decide +kernel
theorem dX11_isMask_13 : decode cX11_isMask 13 = .ok (.ireturn, 1) := by decide +kernel
theorem dX11_isOutThere_0 : decode cX11_isOutThere 0 = .ok (.aload_n 0, 1) := by decide +kernel
theorem dX11_isOutThere_1 : decode cX11_isOutThere 1 = .ok (.iload_n 1, 1) := by decide +kernel
theorem dX11_isOutThere_2 : decode cX11_isOutThere 2 = .ok (.invokevirtual 182, 3) := by decide +kernel
theorem dX11_isOutThere_5 : decode cX11_isOutThere 5 = .ok (.ifCond .ne 9, 3) := by decide +kernel
theorem dX11_isOutThere_8 : decode cX11_isOutThere 8 = .ok (.iload_n 1, 1) := by decide +kernel
theorem dX11_isOutThere_9 : decode cX11_isOutThere 9 = .ok (.bipush 100, 2) := by decide +kernel
theorem dX11_isOutThere_11 : decode cX11_isOutThere 11 = .ok (.if_icmp .ne 7, 3) := by decide +kernel
theorem dX11_isOutThere_14 : decode cX11_isOutThere 14 = .ok (.iconst 1, 1) := by decide +kernel
theorem dX11_isOutThere_15 : decode cX11_isOutThere 15 = .ok (.goto 4, 3) := by decide +kernel
theorem dX11_isOutThere_18 : decode cX11_isOutThere 18 = .ok (.iconst 0, 1) := by decide +kernel
theorem dX11_isOutThere_19 : decode cX11_isOutThere 19 = .ok (.ireturn, 1) := by decide +kernel
theorem dX11_divisor_0 : decode cX11_divisor 0 = .ok (.iload_n 0, 1) := by decide +kernel
theorem dX11_divisor_1 : decode cX11_divisor 1 = .ok (.istore_n 2, 1) := by decide +kernel
theorem dX11_divisor_2 : decode cX11_divisor 2 = .ok (.iload_n 1, 1) := by decide +kernel
theorem dX11_divisor_3 : decode cX11_divisor 3 = .ok (.istore_n 3, 1) := by decide +kernel
theorem dX11_divisor_4 : decode cX11_divisor 4 = .ok (.iload_n 3, 1) := by decide +kernel
theorem dX11_divisor_5 : decode cX11_divisor 5 = .ok (.ifCond .eq 16, 3) := by decide +kernel
theorem dX11_divisor_8 : decode cX11_divisor 8 = .ok (.iload_n 2, 1) := by decide +kernel
theorem dX11_divisor_9 : decode cX11_divisor 9 = .ok (.iload_n 3, 1) := by decide +kernel
theorem dX11_divisor_10 : decode cX11_divisor 10 = .ok (.irem, 1) := by decide +kernel
theorem dX11_divisor_11 : decode cX11_divisor 11 = .ok (.istore 4, 2) := by decide +kernel
theorem dX11_divisor_13 : decode cX11_divisor 13 = .ok (.iload_n 3, 1) := by decide +kernel
theorem dX11_divisor_14 : decode cX11_divisor 14 = .ok (.istore_n 2, 1) := by decide +kernel
theorem dX11_divisor_15 : decode cX11_divisor 15 = .ok (.iload 4, 2) := by decide +kernel
theorem dX11_divisor_17 : decode cX11_divisor 17 = .ok (.istore_n 3, 1) := by decide +kernel
theorem dX11_divisor_18 : decode cX11_divisor 18 = .ok (.goto (-14), 3) := by decide +kernel
theorem dX11_divisor_21 : decode cX11_divisor 21 = .ok (.iload_n 2, 1) := by decide +kernel
theorem dX11_divisor_22 : decode cX11_divisor 22 = .ok (.ireturn, 1) := by decide +kernel
theorem dX11_odds_0 : decode cX11_odds 0 = .ok (.aload_n 0, 1) := by decide +kernel
theorem dX11_odds_1 : decode cX11_odds 1 = .ok (.iload_n 1, 1) := by decide +kernel
theorem dX11_odds_2 : decode cX11_odds 2 = .ok (.invokevirtual 314, 3) := by decide +kernel
theorem dX11_odds_5 : decode cX11_odds 5 = .ok (.ifCond .eq 29, 3) := by decide +kernel
theorem dX11_odds_8 : decode cX11_odds 8 = .ok (.aload_n 0, 1) := by decide +kernel
theorem dX11_odds_9 : decode cX11_odds 9 = .ok (.iload_n 2, 1) := by decide +kernel
theorem dX11_odds_10 : decode cX11_odds 10 = .ok (.invokevirtual 182, 3) := by decide +kernel
theorem dX11_odds_13 : decode cX11_odds 13 = .ok (.ifCond .eq 21, 3) := by decide +kernel
theorem dX11_odds_16 : decode cX11_odds 16 = .ok (.aload_n 0, 1) := by decide +kernel
theorem dX11_odds_17 : decode cX11_odds 17 = .ok (.iload_n 3, 1) := by decide +kernel
theorem dX11_odds_18 : decode cX11_odds 18 = .ok (.invokevirtual 317, 3) := by decide +kernel
theorem dX11_odds_21 : decode cX11_odds 21 = .ok (.ifCond .eq 13, 3) := by decide +kernel
theorem dX11_odds_24 : decode cX11_odds 24 = .ok (.iload 4, 2) := by decide +kernel
theorem dX11_odds_26 : decode cX11_odds 26 = .ok (.iconst 0, 1) := by decide +kernel
theorem dX11_odds_27 : decode cX11_odds 27 = .ok (.iconst 1, 1) := by decide +kernel
theorem dX11_odds_28 : decode cX11_odds 28 = .ok (.invokestatic 71, 3) := by decide +kernel
theorem dX11_odds_31 : decode cX11_odds 31 = .ok (.ifCond .ne 11, 3) := by decide +kernel
theorem dX11_odds_34 : decode cX11_odds 34 = .ok (.aload_n 0, 1) := by decide +kernel
theorem dX11_odds_35 : decode cX11_odds 35 = .ok (.ldc 78, 2) := by decide +kernel
theorem dX11_odds_37 : decode cX11_odds 37 = .ok (.invokevirtual 79, 3) := by decide +kernel
theorem dX11_odds_40 : decode cX11_odds 40 = .ok (.i2l, 1) := by decide +kernel
theorem dX11_odds_41 : decode cX11_odds 41 = .ok (.lreturn, 1) := by decide +kernel
theorem dX11_odds_42 : decode cX11_odds 42 = .ok (.aload_n 0, 1) := by decide +kernel
theorem dX11_odds_43 : decode cX11_odds 43 = .ok (.iload_n 1, 1) := by decide +kernel
theorem dX11_odds_44 : decode cX11_odds 44 = .ok (.invokevirtual 320, 3) := by decide +kernel
theorem dX11_odds_47 : decode cX11_odds 47 = .ok (.aload_n 0, 1) := by decide +kernel
theorem dX11_odds_48 : decode cX11_odds 48 = .ok (.aload_n 0, 1) := by decide +kernel
theorem dX11_odds_49 : decode cX11_odds 49 = .ok (.getfield 7, 3) := by decide +kernel
theorem dX11_odds_52 : decode cX11_odds 52 = .ok (.aload_n 0, 1) := by decide +kernel
theorem dX11_odds_53 : decode cX11_odds 53 = .ok (.getfield 16, 3) := by decide +kernel
theorem dX11_odds_56 : decode cX11_odds 56 = .ok (.invokevirtual 188, 3) := by decide +kernel
theorem dX11_odds_59 : decode cX11_odds 59 = .ok (.iconst 0, 1) := by decide +kernel
theorem dX11_odds_60 : decode cX11_odds 60 = .ok (.istore 5, 2) := by decide +kernel
theorem dX11_odds_62 : decode cX11_odds 62 = .ok (.iconst 0, 1) := by decide +kernel
theorem dX11_odds_63 : decode cX11_odds 63 = .ok (.istore 6, 2) := by decide +kernel
theorem dX11_odds_65 : decode cX11_odds 65 = .ok (.iload 6, 2) := by decide +kernel
theorem dX11_odds_67 : decode cX11_odds 67 = .ok (.iconst 1, 1) := by decide +kernel
theorem dX11_odds_68 : decode cX11_odds 68 = .ok (.aload_n 0, 1) := by decide +kernel
theorem dX11_odds_69 : decode cX11_odds 69 = .ok (.getfield 311, 3) := by decide +kernel
theorem dX11_odds_72 : decode cX11_odds 72 = .ok (.ishl, 1) := by decide +kernel
theorem dX11_odds_73 : decode cX11_odds 73 = .ok (.if_icmp .ge 46, 3) := by decide +kernel
theorem dX11_odds_76 : decode cX11_odds 76 = .ok (.aload_n 0, 1) := by decide +kernel
theorem dX11_odds_77 : decode cX11_odds 77 = .ok (.iload 6, 2) := by decide +kernel
theorem dX11_odds_79 : decode cX11_odds 79 = .ok (.invokevirtual 323, 3) := by decide +kernel
theorem dX11_odds_82 : decode cX11_odds 82 = .ok (.iload 5, 2) := by decide +kernel
theorem dX11_odds_84 : decode cX11_odds 84 = .ok (.aload_n 0, 1) := by decide +kernel
theorem dX11_odds_85 : decode cX11_odds 85 = .ok (.iload_n 2, 1) := by decide +kernel
theorem dX11_odds_86 : decode cX11_odds 86 = .ok (.invokevirtual 179, 3) := by decide +kernel
theorem dX11_odds_89 : decode cX11_odds 89 = .ok (.iload_n 3, 1) := by decide +kernel
theorem dX11_odds_90 : decode cX11_odds 90 = .ok (.if_icmp .ne 7, 3) := by decide +kernel
theorem dX11_odds_93 : decode cX11_odds 93 = .ok (.iconst 1, 1) := by decide +kernel
theorem dX11_odds_94 : decode cX11_odds 94 = .ok (.goto 4, 3) := by decide +kernel
theorem dX11_odds_97 : decode cX11_odds 97 = .ok (.iconst 0, 1) := by decide +kernel
theorem dX11_odds_98 : decode cX11_odds 98 = .ok (.iadd, 1) := by decide +kernel
theorem dX11_odds_99 : decode cX11_odds 99 = .ok (.istore 5, 2) := by decide +kernel
theorem dX11_odds_101 : decode cX11_odds 101 = .ok (.aload_n 0, 1) := by decide +kernel
theorem dX11_odds_102 : decode cX11_odds 102 = .ok (.aload_n 0, 1) := by decide +kernel
theorem dX11_odds_103 : decode cX11_odds 103 = .ok (.getfield 16, 3) := by decide +kernel
theorem dX11_odds_106 : decode cX11_odds 106 = .ok (.aload_n 0, 1) := by decide +kernel
theorem dX11_odds_107 : decode cX11_odds 107 = .ok (.getfield 7, 3) := by decide +kernel
theorem dX11_odds_110 : decode cX11_odds 110 = .ok (.invokevirtual 188, 3) := by decide +kernel
theorem dX11_odds_113 : decode cX11_odds 113 = .ok (.iinc 6 1, 3) := by decide +kernel
theorem dX11_odds_116 : decode cX11_odds 116 = .ok (.goto (-51), 3) := by decide +kernel
theorem dX11_odds_119 : decode cX11_odds 119 = .ok (.iconst 1, 1) := by decide +kernel
theorem dX11_odds_120 : decode cX11_odds 120 = .ok (.aload_n 0, 1) := by decide +kernel
theorem dX11_odds_121 : decode cX11_odds 121 = .ok (.getfield 311, 3) := by decide +kernel
theorem dX11_odds_124 : decode cX11_odds 124 = .ok (.ishl, 1) := by decide +kernel
theorem dX11_odds_125 : decode cX11_odds 125 = .ok (.istore 6, 2) := by decide +kernel
theorem dX11_odds_127 : decode cX11_odds 127 = .ok (.iload 5, 2) := by decide +kernel
theorem dX11_odds_129 : decode cX11_odds 129 = .ok (.iload 6, 2) := by decide +kernel
theorem dX11_odds_131 : decode cX11_odds 131 = .ok (.invokestatic 326, 3) := by decide +kernel
theorem dX11_odds_134 : decode cX11_odds 134 = .ok (.istore 7, 2) := by decide +kernel
theorem dX11_odds_136 : decode cX11_odds 136 = .ok (.iload 4, 2) := by decide +kernel
theorem dX11_odds_138 : decode cX11_odds 138 = .ok (.ifCond .ne 12, 3) := by decide +kernel
theorem dX11_odds_141 : decode cX11_odds 141 = .ok (.iload 5, 2) := by decide +kernel
theorem dX11_odds_143 : decode cX11_odds 143 = .ok (.iload 7, 2) := by decide +kernel
theorem dX11_odds_145 : decode cX11_odds 145 = .ok (.idiv, 1) := by decide +kernel
theorem dX11_odds_146 : decode cX11_odds 146 = .ok (.i2l, 1) := by decide +kernel
theorem dX11_odds_147 : decode cX11_odds 147 = .ok (.goto 9, 3) := by decide +kernel
theorem dX11_odds_150 : decode cX11_odds 150 = .ok (.iload 6, 2) := by decide +kernel
theorem dX11_odds_152 : decode cX11_odds 152 = .ok (.iload 7, 2) := by decide +kernel
theorem dX11_odds_154 : decode cX11_odds 154 = .ok (.idiv, 1) := by decide +kernel
theorem dX11_odds_155 : decode cX11_odds 155 = .ok (.i2l, 1) := by decide +kernel
theorem dX11_odds_156 : decode cX11_odds 156 = .ok (.lreturn, 1) := by decide +kernel
theorem dX11_isSheet_0 : decode cX11_isSheet 0 = .ok (.iload_n 0, 1) := by decide +kernel
theorem dX11_isSheet_1 : decode cX11_isSheet 1 = .ok (.iconst 0, 1) := by decide +kernel
theorem dX11_isSheet_2 : decode cX11_isSheet 2 = .ok (.iconst 3, 1) := by decide +kernel
theorem dX11_isSheet_3 : decode cX11_isSheet 3 = .ok (.invokestatic 71, 3) := by decide +kernel
theorem dX11_isSheet_6 : decode cX11_isSheet 6 = .ok (.ireturn, 1) := by decide +kernel
theorem dX11_areLetters_0 : decode cX11_areLetters 0 = .ok (.aload_n 0, 1) := by decide +kernel
theorem dX11_areLetters_1 : decode cX11_areLetters 1 = .ok (.getfield 48, 3) := by decide +kernel
theorem dX11_areLetters_4 : decode cX11_areLetters 4 = .ok (.iload_n 1, 1) := by decide +kernel
theorem dX11_areLetters_5 : decode cX11_areLetters 5 = .ok (.iaload, 1) := by decide +kernel
theorem dX11_areLetters_6 : decode cX11_areLetters 6 = .ok (.ifCond .eq 7, 3) := by decide +kernel
theorem dX11_areLetters_9 : decode cX11_areLetters 9 = .ok (.iconst 1, 1) := by decide +kernel
theorem dX11_areLetters_10 : decode cX11_areLetters 10 = .ok (.goto 4, 3) := by decide +kernel
theorem dX11_areLetters_13 : decode cX11_areLetters 13 = .ok (.iconst 0, 1) := by decide +kernel
theorem dX11_areLetters_14 : decode cX11_areLetters 14 = .ok (.istore_n 2, 1) := by decide +kernel
theorem dX11_areLetters_15 : decode cX11_areLetters 15 = .ok (.iconst 0, 1) := by decide +kernel
theorem dX11_areLetters_16 : decode cX11_areLetters 16 = .ok (.istore_n 3, 1) := by decide +kernel
theorem dX11_areLetters_17 : decode cX11_areLetters 17 = .ok (.iload_n 3, 1) := by decide +kernel
theorem dX11_areLetters_18 : decode cX11_areLetters 18 = .ok (.iconst 1, 1) := by decide +kernel
theorem dX11_areLetters_19 : decode cX11_areLetters 19 = .ok (.iadd, 1) := by decide +kernel
theorem dX11_areLetters_20 : decode cX11_areLetters 20 = .ok (.aload_n 0, 1) := by decide +kernel
theorem dX11_areLetters_21 : decode cX11_areLetters 21 = .ok (.getfield 51, 3) := by decide +kernel
theorem dX11_areLetters_24 : decode cX11_areLetters 24 = .ok (.iload_n 1, 1) := by decide +kernel
theorem dX11_areLetters_25 : decode cX11_areLetters 25 = .ok (.iaload, 1) := by decide +kernel
theorem dX11_areLetters_26 : decode cX11_areLetters 26 = .ok (.if_icmp .ge 57, 3) := by decide +kernel
theorem dX11_areLetters_29 : decode cX11_areLetters 29 = .ok (.iload_n 2, 1) := by decide +kernel
theorem dX11_areLetters_30 : decode cX11_areLetters 30 = .ok (.ifCond .eq 53, 3) := by decide +kernel
theorem dX11_areLetters_33 : decode cX11_areLetters 33 = .ok (.aload_n 0, 1) := by decide +kernel
theorem dX11_areLetters_34 : decode cX11_areLetters 34 = .ok (.aload_n 0, 1) := by decide +kernel
theorem dX11_areLetters_35 : decode cX11_areLetters 35 = .ok (.getfield 54, 3) := by decide +kernel
theorem dX11_areLetters_38 : decode cX11_areLetters 38 = .ok (.bipush 40, 2) := by decide +kernel
theorem dX11_areLetters_40 : decode cX11_areLetters 40 = .ok (.iload_n 1, 1) := by decide +kernel
theorem dX11_areLetters_41 : decode cX11_areLetters 41 = .ok (.imul, 1) := by decide +kernel
theorem dX11_areLetters_42 : decode cX11_areLetters 42 = .ok (.iload_n 3, 1) := by decide +kernel
theorem dX11_areLetters_43 : decode cX11_areLetters 43 = .ok (.iadd, 1) := by decide +kernel
theorem dX11_areLetters_44 : decode cX11_areLetters 44 = .ok (.iaload, 1) := by decide +kernel
theorem dX11_areLetters_45 : decode cX11_areLetters 45 = .ok (.invokevirtual 182, 3) := by decide +kernel
theorem dX11_areLetters_48 : decode cX11_areLetters 48 = .ok (.ifCond .eq 27, 3) := by decide +kernel
theorem dX11_areLetters_51 : decode cX11_areLetters 51 = .ok (.aload_n 0, 1) := by decide +kernel
theorem dX11_areLetters_52 : decode cX11_areLetters 52 = .ok (.aload_n 0, 1) := by decide +kernel
theorem dX11_areLetters_53 : decode cX11_areLetters 53 = .ok (.getfield 54, 3) := by decide +kernel
theorem dX11_areLetters_56 : decode cX11_areLetters 56 = .ok (.bipush 40, 2) := by decide +kernel
theorem dX11_areLetters_58 : decode cX11_areLetters 58 = .ok (.iload_n 1, 1) := by decide +kernel
theorem dX11_areLetters_59 : decode cX11_areLetters 59 = .ok (.imul, 1) := by decide +kernel
theorem dX11_areLetters_60 : decode cX11_areLetters 60 = .ok (.iload_n 3, 1) := by decide +kernel
theorem dX11_areLetters_61 : decode cX11_areLetters 61 = .ok (.iadd, 1) := by decide +kernel
theorem dX11_areLetters_62 : decode cX11_areLetters 62 = .ok (.iconst 1, 1) := by decide +kernel
theorem dX11_areLetters_63 : decode cX11_areLetters 63 = .ok (.iadd, 1) := by decide +kernel
theorem dX11_areLetters_64 : decode cX11_areLetters 64 = .ok (.iaload, 1) := by decide +kernel
theorem dX11_areLetters_65 : decode cX11_areLetters 65 = .ok (.invokevirtual 317, 3) := by decide +kernel
theorem dX11_areLetters_68 : decode cX11_areLetters 68 = .ok (.ifCond .eq 7, 3) := by decide +kernel
theorem dX11_areLetters_71 : decode cX11_areLetters 71 = .ok (.iconst 1, 1) := by decide +kernel
theorem dX11_areLetters_72 : decode cX11_areLetters 72 = .ok (.goto 4, 3) := by decide +kernel
theorem dX11_areLetters_75 : decode cX11_areLetters 75 = .ok (.iconst 0, 1) := by decide +kernel
theorem dX11_areLetters_76 : decode cX11_areLetters 76 = .ok (.istore_n 2, 1) := by decide +kernel
theorem dX11_areLetters_77 : decode cX11_areLetters 77 = .ok (.iinc 3 2, 3) := by decide +kernel
theorem dX11_areLetters_80 : decode cX11_areLetters 80 = .ok (.goto (-63), 3) := by decide +kernel
theorem dX11_areLetters_83 : decode cX11_areLetters 83 = .ok (.iload_n 2, 1) := by decide +kernel
theorem dX11_areLetters_84 : decode cX11_areLetters 84 = .ok (.ireturn, 1) := by decide +kernel
theorem dX11_cameSo_0 : decode cX11_cameSo 0 = .ok (.iconst 1, 1) := by decide +kernel
theorem dX11_cameSo_1 : decode cX11_cameSo 1 = .ok (.istore_n 2, 1) := by decide +kernel
theorem dX11_cameSo_2 : decode cX11_cameSo 2 = .ok (.iconst 0, 1) := by decide +kernel
theorem dX11_cameSo_3 : decode cX11_cameSo 3 = .ok (.istore_n 3, 1) := by decide +kernel
theorem dX11_cameSo_4 : decode cX11_cameSo 4 = .ok (.iload_n 3, 1) := by decide +kernel
theorem dX11_cameSo_5 : decode cX11_cameSo 5 = .ok (.iconst 1, 1) := by decide +kernel
theorem dX11_cameSo_6 : decode cX11_cameSo 6 = .ok (.iadd, 1) := by decide +kernel
theorem dX11_cameSo_7 : decode cX11_cameSo 7 = .ok (.aload_n 0, 1) := by decide +kernel
theorem dX11_cameSo_8 : decode cX11_cameSo 8 = .ok (.getfield 51, 3) := by decide +kernel
theorem dX11_cameSo_11 : decode cX11_cameSo 11 = .ok (.iload_n 1, 1) := by decide +kernel
theorem dX11_cameSo_12 : decode cX11_cameSo 12 = .ok (.iaload, 1) := by decide +kernel
theorem dX11_cameSo_13 : decode cX11_cameSo 13 = .ok (.if_icmp .ge 50, 3) := by decide +kernel
theorem dX11_cameSo_16 : decode cX11_cameSo 16 = .ok (.iload_n 2, 1) := by decide +kernel
theorem dX11_cameSo_17 : decode cX11_cameSo 17 = .ok (.ifCond .eq 46, 3) := by decide +kernel
theorem dX11_cameSo_20 : decode cX11_cameSo 20 = .ok (.aload_n 0, 1) := by decide +kernel
theorem dX11_cameSo_21 : decode cX11_cameSo 21 = .ok (.aload_n 0, 1) := by decide +kernel
theorem dX11_cameSo_22 : decode cX11_cameSo 22 = .ok (.getfield 54, 3) := by decide +kernel
theorem dX11_cameSo_25 : decode cX11_cameSo 25 = .ok (.bipush 40, 2) := by decide +kernel
theorem dX11_cameSo_27 : decode cX11_cameSo 27 = .ok (.iload_n 1, 1) := by decide +kernel
theorem dX11_cameSo_28 : decode cX11_cameSo 28 = .ok (.imul, 1) := by decide +kernel
theorem dX11_cameSo_29 : decode cX11_cameSo 29 = .ok (.iload_n 3, 1) := by decide +kernel
theorem dX11_cameSo_30 : decode cX11_cameSo 30 = .ok (.iadd, 1) := by decide +kernel
theorem dX11_cameSo_31 : decode cX11_cameSo 31 = .ok (.iaload, 1) := by decide +kernel
theorem dX11_cameSo_32 : decode cX11_cameSo 32 = .ok (.invokevirtual 179, 3) := by decide +kernel
theorem dX11_cameSo_35 : decode cX11_cameSo 35 = .ok (.aload_n 0, 1) := by decide +kernel
theorem dX11_cameSo_36 : decode cX11_cameSo 36 = .ok (.getfield 54, 3) := by decide +kernel
theorem dX11_cameSo_39 : decode cX11_cameSo 39 = .ok (.bipush 40, 2) := by decide +kernel
theorem dX11_cameSo_41 : decode cX11_cameSo 41 = .ok (.iload_n 1, 1) := by decide +kernel
theorem dX11_cameSo_42 : decode cX11_cameSo 42 = .ok (.imul, 1) := by decide +kernel
theorem dX11_cameSo_43 : decode cX11_cameSo 43 = .ok (.iload_n 3, 1) := by decide +kernel
theorem dX11_cameSo_44 : decode cX11_cameSo 44 = .ok (.iadd, 1) := by decide +kernel
theorem dX11_cameSo_45 : decode cX11_cameSo 45 = .ok (.iconst 1, 1) := by decide +kernel
theorem dX11_cameSo_46 : decode cX11_cameSo 46 = .ok (.iadd, 1) := by decide +kernel
theorem dX11_cameSo_47 : decode cX11_cameSo 47 = .ok (.iaload, 1) := by decide +kernel
theorem dX11_cameSo_48 : decode cX11_cameSo 48 = .ok (.if_icmp .ne 7, 3) := by decide +kernel
theorem dX11_cameSo_51 : decode cX11_cameSo 51 = .ok (.iconst 1, 1) := by decide +kernel
theorem dX11_cameSo_52 : decode cX11_cameSo 52 = .ok (.goto 4, 3) := by decide +kernel
theorem dX11_cameSo_55 : decode cX11_cameSo 55 = .ok (.iconst 0, 1) := by decide +kernel
theorem dX11_cameSo_56 : decode cX11_cameSo 56 = .ok (.istore_n 2, 1) := by decide +kernel
theorem dX11_cameSo_57 : decode cX11_cameSo 57 = .ok (.iinc 3 2, 3) := by decide +kernel
theorem dX11_cameSo_60 : decode cX11_cameSo 60 = .ok (.goto (-56), 3) := by decide +kernel
theorem dX11_cameSo_63 : decode cX11_cameSo 63 = .ok (.iload_n 2, 1) := by decide +kernel
theorem dX11_cameSo_64 : decode cX11_cameSo 64 = .ok (.ireturn, 1) := by decide +kernel
theorem dX11_findFits_0 : decode cX11_findFits 0 = .ok (.aload_n 0, 1) := by decide +kernel
theorem dX11_findFits_1 : decode cX11_findFits 1 = .ok (.aload_n 0, 1) := by decide +kernel
theorem dX11_findFits_2 : decode cX11_findFits 2 = .ok (.getfield 7, 3) := by decide +kernel
theorem dX11_findFits_5 : decode cX11_findFits 5 = .ok (.aload_n 0, 1) := by decide +kernel
theorem dX11_findFits_6 : decode cX11_findFits 6 = .ok (.getfield 16, 3) := by decide +kernel
theorem dX11_findFits_9 : decode cX11_findFits 9 = .ok (.invokevirtual 188, 3) := by decide +kernel
theorem dX11_findFits_12 : decode cX11_findFits 12 = .ok (.iconst 0, 1) := by decide +kernel
theorem dX11_findFits_13 : decode cX11_findFits 13 = .ok (.istore_n 2, 1) := by decide +kernel
theorem dX11_findFits_14 : decode cX11_findFits 14 = .ok (.iconst 0, 1) := by decide +kernel
theorem dX11_findFits_15 : decode cX11_findFits 15 = .ok (.istore_n 3, 1) := by decide +kernel
theorem dX11_findFits_16 : decode cX11_findFits 16 = .ok (.iload_n 3, 1) := by decide +kernel
theorem dX11_findFits_17 : decode cX11_findFits 17 = .ok (.bipush 20, 2) := by decide +kernel
theorem dX11_findFits_19 : decode cX11_findFits 19 = .ok (.if_icmp .ge 16, 3) := by decide +kernel
theorem dX11_findFits_22 : decode cX11_findFits 22 = .ok (.aload_n 0, 1) := by decide +kernel
theorem dX11_findFits_23 : decode cX11_findFits 23 = .ok (.getfield 60, 3) := by decide +kernel
theorem dX11_findFits_26 : decode cX11_findFits 26 = .ok (.iload_n 3, 1) := by decide +kernel
theorem dX11_findFits_27 : decode cX11_findFits 27 = .ok (.iconst 0, 1) := by decide +kernel
theorem dX11_findFits_28 : decode cX11_findFits 28 = .ok (.iastore, 1) := by decide +kernel
theorem dX11_findFits_29 : decode cX11_findFits 29 = .ok (.iinc 3 1, 3) := by decide +kernel
theorem dX11_findFits_32 : decode cX11_findFits 32 = .ok (.goto (-16), 3) := by decide +kernel
theorem dX11_findFits_35 : decode cX11_findFits 35 = .ok (.iconst 0, 1) := by decide +kernel
theorem dX11_findFits_36 : decode cX11_findFits 36 = .ok (.istore_n 3, 1) := by decide +kernel
theorem dX11_findFits_37 : decode cX11_findFits 37 = .ok (.iload_n 3, 1) := by decide +kernel
theorem dX11_findFits_38 : decode cX11_findFits 38 = .ok (.iconst 1, 1) := by decide +kernel
theorem dX11_findFits_39 : decode cX11_findFits 39 = .ok (.aload_n 0, 1) := by decide +kernel
theorem dX11_findFits_40 : decode cX11_findFits 40 = .ok (.getfield 311, 3) := by decide +kernel
theorem dX11_findFits_43 : decode cX11_findFits 43 = .ok (.ishl, 1) := by decide +kernel
theorem dX11_findFits_44 : decode cX11_findFits 44 = .ok (.if_icmp .ge 114, 3) := by decide +kernel
theorem dX11_findFits_47 : decode cX11_findFits 47 = .ok (.aload_n 0, 1) := by decide +kernel
theorem dX11_findFits_48 : decode cX11_findFits 48 = .ok (.iload_n 3, 1) := by decide +kernel
theorem dX11_findFits_49 : decode cX11_findFits 49 = .ok (.invokevirtual 323, 3) := by decide +kernel
theorem dX11_findFits_52 : decode cX11_findFits 52 = .ok (.aload_n 0, 1) := by decide +kernel
theorem dX11_findFits_53 : decode cX11_findFits 53 = .ok (.iload_n 1, 1) := by decide +kernel
theorem dX11_findFits_54 : decode cX11_findFits 54 = .ok (.invokevirtual 329, 3) := by decide +kernel
theorem dX11_findFits_57 : decode cX11_findFits 57 = .ok (.ifCond .eq 83, 3) := by decide +kernel
theorem dX11_findFits_60 : decode cX11_findFits 60 = .ok (.iinc 2 1, 3) := by decide +kernel
theorem dX11_findFits_63 : decode cX11_findFits 63 = .ok (.aload_n 0, 1) := by decide +kernel
theorem dX11_findFits_64 : decode cX11_findFits 64 = .ok (.aload_n 0, 1) := by decide +kernel
theorem dX11_findFits_65 : decode cX11_findFits 65 = .ok (.getfield 7, 3) := by decide +kernel
theorem dX11_findFits_68 : decode cX11_findFits 68 = .ok (.aload_n 0, 1) := by decide +kernel
theorem dX11_findFits_69 : decode cX11_findFits 69 = .ok (.getfield 19, 3) := by decide +kernel
theorem dX11_findFits_72 : decode cX11_findFits 72 = .ok (.invokevirtual 188, 3) := by decide +kernel
theorem dX11_findFits_75 : decode cX11_findFits 75 = .ok (.iconst 0, 1) := by decide +kernel
theorem dX11_findFits_76 : decode cX11_findFits 76 = .ok (.istore 4, 2) := by decide +kernel
theorem dX11_findFits_78 : decode cX11_findFits 78 = .ok (.iload 4, 2) := by decide +kernel
theorem dX11_findFits_80 : decode cX11_findFits 80 = .ok (.aload_n 0, 1) := by decide +kernel
theorem dX11_findFits_81 : decode cX11_findFits 81 = .ok (.invokevirtual 75, 3) := by decide +kernel
theorem dX11_findFits_84 : decode cX11_findFits 84 = .ok (.if_icmp .ge 56, 3) := by decide +kernel
theorem dX11_findFits_87 : decode cX11_findFits 87 = .ok (.aload_n 0, 1) := by decide +kernel
theorem dX11_findFits_88 : decode cX11_findFits 88 = .ok (.iload 4, 2) := by decide +kernel
theorem dX11_findFits_90 : decode cX11_findFits 90 = .ok (.invokevirtual 179, 3) := by decide +kernel
theorem dX11_findFits_93 : decode cX11_findFits 93 = .ok (.istore 5, 2) := by decide +kernel
theorem dX11_findFits_95 : decode cX11_findFits 95 = .ok (.aload_n 0, 1) := by decide +kernel
theorem dX11_findFits_96 : decode cX11_findFits 96 = .ok (.getfield 60, 3) := by decide +kernel
theorem dX11_findFits_99 : decode cX11_findFits 99 = .ok (.iload 4, 2) := by decide +kernel
theorem dX11_findFits_101 : decode cX11_findFits 101 = .ok (.dup2, 1) := by decide +kernel
theorem dX11_findFits_102 : decode cX11_findFits 102 = .ok (.iaload, 1) := by decide +kernel
theorem dX11_findFits_103 : decode cX11_findFits 103 = .ok (.iload 5, 2) := by decide +kernel
theorem dX11_findFits_105 : decode cX11_findFits 105 = .ok (.bipush 100, 2) := by decide +kernel
theorem dX11_findFits_107 : decode cX11_findFits 107 = .ok (.if_icmp .ne 9, 3) := by decide +kernel
theorem dX11_findFits_110 : decode cX11_findFits 110 = .ok (.ldc_w 332, 3) := by decide +kernel
theorem dX11_findFits_113 : decode cX11_findFits 113 = .ok (.goto 7, 3) := by decide +kernel
theorem dX11_findFits_116 : decode cX11_findFits 116 = .ok (.iconst 1, 1) := by decide +kernel
theorem dX11_findFits_117 : decode cX11_findFits 117 = .ok (.iload 5, 2) := by decide +kernel
theorem dX11_findFits_119 : decode cX11_findFits 119 = .ok (.ishl, 1) := by decide +kernel
theorem dX11_findFits_120 : decode cX11_findFits 120 = .ok (.ior, 1) := by decide +kernel
theorem dX11_findFits_121 : decode cX11_findFits 121 = .ok (.iastore, 1) := by decide +kernel
theorem dX11_findFits_122 : decode cX11_findFits 122 = .ok (.aload_n 0, 1) := by decide +kernel
theorem dX11_findFits_123 : decode cX11_findFits 123 = .ok (.aload_n 0, 1) := by decide +kernel
theorem dX11_findFits_124 : decode cX11_findFits 124 = .ok (.getfield 19, 3) := by decide +kernel
theorem dX11_findFits_127 : decode cX11_findFits 127 = .ok (.aload_n 0, 1) := by decide +kernel
theorem dX11_findFits_128 : decode cX11_findFits 128 = .ok (.getfield 7, 3) := by decide +kernel
theorem dX11_findFits_131 : decode cX11_findFits 131 = .ok (.invokevirtual 188, 3) := by decide +kernel
theorem dX11_findFits_134 : decode cX11_findFits 134 = .ok (.iinc 4 1, 3) := by decide +kernel
theorem dX11_findFits_137 : decode cX11_findFits 137 = .ok (.goto (-59), 3) := by decide +kernel
theorem dX11_findFits_140 : decode cX11_findFits 140 = .ok (.aload_n 0, 1) := by decide +kernel
theorem dX11_findFits_141 : decode cX11_findFits 141 = .ok (.aload_n 0, 1) := by decide +kernel
theorem dX11_findFits_142 : decode cX11_findFits 142 = .ok (.getfield 16, 3) := by decide +kernel
theorem dX11_findFits_145 : decode cX11_findFits 145 = .ok (.aload_n 0, 1) := by decide +kernel
theorem dX11_findFits_146 : decode cX11_findFits 146 = .ok (.getfield 7, 3) := by decide +kernel
theorem dX11_findFits_149 : decode cX11_findFits 149 = .ok (.invokevirtual 188, 3) := by decide +kernel
theorem dX11_findFits_152 : decode cX11_findFits 152 = .ok (.iinc 3 1, 3) := by decide +kernel
theorem dX11_findFits_155 : decode cX11_findFits 155 = .ok (.goto (-118), 3) := by decide +kernel
theorem dX11_findFits_158 : decode cX11_findFits 158 = .ok (.iload_n 2, 1) := by decide +kernel
theorem dX11_findFits_159 : decode cX11_findFits 159 = .ok (.ireturn, 1) := by decide +kernel
theorem dX11_fits_0 : decode cX11_fits 0 = .ok (.aload_n 0, 1) := by decide +kernel
theorem dX11_fits_1 : decode cX11_fits 1 = .ok (.iload_n 1, 1) := by decide +kernel
theorem dX11_fits_2 : decode cX11_fits 2 = .ok (.invokevirtual 314, 3) := by decide +kernel
theorem dX11_fits_5 : decode cX11_fits 5 = .ok (.ifCond .eq 10, 3) := by decide +kernel
theorem dX11_fits_8 : decode cX11_fits 8 = .ok (.iload_n 2, 1) := by decide +kernel
theorem dX11_fits_9 : decode cX11_fits 9 = .ok (.invokestatic 333, 3) := by decide +kernel
theorem dX11_fits_12 : decode cX11_fits 12 = .ok (.ifCond .ne 10, 3) := by decide +kernel
theorem dX11_fits_15 : decode cX11_fits 15 = .ok (.aload_n 0, 1) := by decide +kernel
theorem dX11_fits_16 : decode cX11_fits 16 = .ok (.ldc 78, 2) := by decide +kernel
theorem dX11_fits_18 : decode cX11_fits 18 = .ok (.invokevirtual 79, 3) := by decide +kernel
theorem dX11_fits_21 : decode cX11_fits 21 = .ok (.ireturn, 1) := by decide +kernel
theorem dX11_fits_22 : decode cX11_fits 22 = .ok (.aload_n 0, 1) := by decide +kernel
theorem dX11_fits_23 : decode cX11_fits 23 = .ok (.iload_n 2, 1) := by decide +kernel
theorem dX11_fits_24 : decode cX11_fits 24 = .ok (.invokevirtual 336, 3) := by decide +kernel
theorem dX11_fits_27 : decode cX11_fits 27 = .ok (.ifCond .ne 10, 3) := by decide +kernel
theorem dX11_fits_30 : decode cX11_fits 30 = .ok (.aload_n 0, 1) := by decide +kernel
theorem dX11_fits_31 : decode cX11_fits 31 = .ok (.ldc 195, 2) := by decide +kernel
theorem dX11_fits_33 : decode cX11_fits 33 = .ok (.invokevirtual 79, 3) := by decide +kernel
theorem dX11_fits_36 : decode cX11_fits 36 = .ok (.ireturn, 1) := by decide +kernel
theorem dX11_fits_37 : decode cX11_fits 37 = .ok (.aload_n 0, 1) := by decide +kernel
theorem dX11_fits_38 : decode cX11_fits 38 = .ok (.iload_n 1, 1) := by decide +kernel
theorem dX11_fits_39 : decode cX11_fits 39 = .ok (.invokevirtual 320, 3) := by decide +kernel
theorem dX11_fits_42 : decode cX11_fits 42 = .ok (.aload_n 0, 1) := by decide +kernel
theorem dX11_fits_43 : decode cX11_fits 43 = .ok (.iload_n 2, 1) := by decide +kernel
theorem dX11_fits_44 : decode cX11_fits 44 = .ok (.invokevirtual 339, 3) := by decide +kernel
theorem dX11_fits_47 : decode cX11_fits 47 = .ok (.ireturn, 1) := by decide +kernel
theorem dX11_tells_0 : decode cX11_tells 0 = .ok (.aload_n 0, 1) := by decide +kernel
theorem dX11_tells_1 : decode cX11_tells 1 = .ok (.iload_n 1, 1) := by decide +kernel
theorem dX11_tells_2 : decode cX11_tells 2 = .ok (.invokevirtual 314, 3) := by decide +kernel
theorem dX11_tells_5 : decode cX11_tells 5 = .ok (.ifCond .eq 19, 3) := by decide +kernel
theorem dX11_tells_8 : decode cX11_tells 8 = .ok (.iload_n 2, 1) := by decide +kernel
theorem dX11_tells_9 : decode cX11_tells 9 = .ok (.invokestatic 333, 3) := by decide +kernel
theorem dX11_tells_12 : decode cX11_tells 12 = .ok (.ifCond .eq 12, 3) := by decide +kernel
theorem dX11_tells_15 : decode cX11_tells 15 = .ok (.iload_n 3, 1) := by decide +kernel
theorem dX11_tells_16 : decode cX11_tells 16 = .ok (.iconst 0, 1) := by decide +kernel
theorem dX11_tells_17 : decode cX11_tells 17 = .ok (.iconst 1, 1) := by decide +kernel
theorem dX11_tells_18 : decode cX11_tells 18 = .ok (.invokestatic 71, 3) := by decide +kernel
theorem dX11_tells_21 : decode cX11_tells 21 = .ok (.ifCond .ne 10, 3) := by decide +kernel
theorem dX11_tells_24 : decode cX11_tells 24 = .ok (.aload_n 0, 1) := by decide +kernel
theorem dX11_tells_25 : decode cX11_tells 25 = .ok (.ldc 78, 2) := by decide +kernel
theorem dX11_tells_27 : decode cX11_tells 27 = .ok (.invokevirtual 79, 3) := by decide +kernel
theorem dX11_tells_30 : decode cX11_tells 30 = .ok (.ireturn, 1) := by decide +kernel
theorem dX11_tells_31 : decode cX11_tells 31 = .ok (.aload_n 0, 1) := by decide +kernel
theorem dX11_tells_32 : decode cX11_tells 32 = .ok (.iload_n 2, 1) := by decide +kernel
theorem dX11_tells_33 : decode cX11_tells 33 = .ok (.invokevirtual 336, 3) := by decide +kernel
theorem dX11_tells_36 : decode cX11_tells 36 = .ok (.ifCond .ne 10, 3) := by decide +kernel
theorem dX11_tells_39 : decode cX11_tells 39 = .ok (.aload_n 0, 1) := by decide +kernel
theorem dX11_tells_40 : decode cX11_tells 40 = .ok (.ldc 195, 2) := by decide +kernel
theorem dX11_tells_42 : decode cX11_tells 42 = .ok (.invokevirtual 79, 3) := by decide +kernel
theorem dX11_tells_45 : decode cX11_tells 45 = .ok (.ireturn, 1) := by decide +kernel
theorem dX11_tells_46 : decode cX11_tells 46 = .ok (.aload_n 0, 1) := by decide +kernel
theorem dX11_tells_47 : decode cX11_tells 47 = .ok (.iload_n 1, 1) := by decide +kernel
theorem dX11_tells_48 : decode cX11_tells 48 = .ok (.invokevirtual 320, 3) := by decide +kernel
theorem dX11_tells_51 : decode cX11_tells 51 = .ok (.aload_n 0, 1) := by decide +kernel
theorem dX11_tells_52 : decode cX11_tells 52 = .ok (.iload_n 2, 1) := by decide +kernel
theorem dX11_tells_53 : decode cX11_tells 53 = .ok (.invokevirtual 339, 3) := by decide +kernel
theorem dX11_tells_56 : decode cX11_tells 56 = .ok (.ifCond .ne 10, 3) := by decide +kernel
theorem dX11_tells_59 : decode cX11_tells 59 = .ok (.aload_n 0, 1) := by decide +kernel
theorem dX11_tells_60 : decode cX11_tells 60 = .ok (.ldc 195, 2) := by decide +kernel
theorem dX11_tells_62 : decode cX11_tells 62 = .ok (.invokevirtual 79, 3) := by decide +kernel
theorem dX11_tells_65 : decode cX11_tells 65 = .ok (.ireturn, 1) := by decide +kernel
theorem dX11_tells_66 : decode cX11_tells 66 = .ok (.iconst 0, 1) := by decide +kernel
theorem dX11_tells_67 : decode cX11_tells 67 = .ok (.istore 4, 2) := by decide +kernel
theorem dX11_tells_69 : decode cX11_tells 69 = .ok (.iconst 1, 1) := by decide +kernel
theorem dX11_tells_70 : decode cX11_tells 70 = .ok (.istore 5, 2) := by decide +kernel
theorem dX11_tells_72 : decode cX11_tells 72 = .ok (.iload 5, 2) := by decide +kernel
theorem dX11_tells_74 : decode cX11_tells 74 = .ok (.aload_n 0, 1) := by decide +kernel
theorem dX11_tells_75 : decode cX11_tells 75 = .ok (.invokevirtual 75, 3) := by decide +kernel
theorem dX11_tells_78 : decode cX11_tells 78 = .ok (.if_icmp .ge 41, 3) := by decide +kernel
theorem dX11_tells_81 : decode cX11_tells 81 = .ok (.aload_n 0, 1) := by decide +kernel
theorem dX11_tells_82 : decode cX11_tells 82 = .ok (.getfield 60, 3) := by decide +kernel
theorem dX11_tells_85 : decode cX11_tells 85 = .ok (.iload 5, 2) := by decide +kernel
theorem dX11_tells_87 : decode cX11_tells 87 = .ok (.iaload, 1) := by decide +kernel
theorem dX11_tells_88 : decode cX11_tells 88 = .ok (.invokestatic 192, 3) := by decide +kernel
theorem dX11_tells_91 : decode cX11_tells 91 = .ok (.aload_n 0, 1) := by decide +kernel
theorem dX11_tells_92 : decode cX11_tells 92 = .ok (.getfield 60, 3) := by decide +kernel
theorem dX11_tells_95 : decode cX11_tells 95 = .ok (.iload 4, 2) := by decide +kernel
theorem dX11_tells_97 : decode cX11_tells 97 = .ok (.iaload, 1) := by decide +kernel
theorem dX11_tells_98 : decode cX11_tells 98 = .ok (.invokestatic 192, 3) := by decide +kernel
theorem dX11_tells_101 : decode cX11_tells 101 = .ok (.if_icmp .le 8, 3) := by decide +kernel
theorem dX11_tells_104 : decode cX11_tells 104 = .ok (.iload 5, 2) := by decide +kernel
theorem dX11_tells_106 : decode cX11_tells 106 = .ok (.goto 5, 3) := by decide +kernel
theorem dX11_tells_109 : decode cX11_tells 109 = .ok (.iload 4, 2) := by decide +kernel
theorem dX11_tells_111 : decode cX11_tells 111 = .ok (.istore 4, 2) := by decide +kernel
theorem dX11_tells_113 : decode cX11_tells 113 = .ok (.iinc 5 1, 3) := by decide +kernel
theorem dX11_tells_116 : decode cX11_tells 116 = .ok (.goto (-44), 3) := by decide +kernel
theorem dX11_tells_119 : decode cX11_tells 119 = .ok (.iload_n 3, 1) := by decide +kernel
theorem dX11_tells_120 : decode cX11_tells 120 = .ok (.ifCond .ne 8, 3) := by decide +kernel
theorem dX11_tells_123 : decode cX11_tells 123 = .ok (.iload 4, 2) := by decide +kernel
theorem dX11_tells_125 : decode cX11_tells 125 = .ok (.goto 13, 3) := by decide +kernel
theorem dX11_tells_128 : decode cX11_tells 128 = .ok (.aload_n 0, 1) := by decide +kernel
theorem dX11_tells_129 : decode cX11_tells 129 = .ok (.getfield 60, 3) := by decide +kernel
theorem dX11_tells_132 : decode cX11_tells 132 = .ok (.iload 4, 2) := by decide +kernel
theorem dX11_tells_134 : decode cX11_tells 134 = .ok (.iaload, 1) := by decide +kernel
theorem dX11_tells_135 : decode cX11_tells 135 = .ok (.invokestatic 192, 3) := by decide +kernel
theorem dX11_tells_138 : decode cX11_tells 138 = .ok (.ireturn, 1) := by decide +kernel
theorem dX11_longest_0 : decode cX11_longest 0 = .ok (.iload_n 1, 1) := by decide +kernel
theorem dX11_longest_1 : decode cX11_longest 1 = .ok (.iconst 0, 1) := by decide +kernel
theorem dX11_longest_2 : decode cX11_longest 2 = .ok (.iconst 1, 1) := by decide +kernel
theorem dX11_longest_3 : decode cX11_longest 3 = .ok (.invokestatic 71, 3) := by decide +kernel
theorem dX11_longest_6 : decode cX11_longest 6 = .ok (.ifCond .ne 10, 3) := by decide +kernel
theorem dX11_longest_9 : decode cX11_longest 9 = .ok (.aload_n 0, 1) := by decide +kernel
theorem dX11_longest_10 : decode cX11_longest 10 = .ok (.ldc 78, 2) := by decide +kernel
theorem dX11_longest_12 : decode cX11_longest 12 = .ok (.invokevirtual 79, 3) := by decide +kernel
theorem dX11_longest_15 : decode cX11_longest 15 = .ok (.ireturn, 1) := by decide +kernel
theorem dX11_longest_16 : decode cX11_longest 16 = .ok (.aload_n 0, 1) := by decide +kernel
theorem dX11_longest_17 : decode cX11_longest 17 = .ok (.aload_n 0, 1) := by decide +kernel
theorem dX11_longest_18 : decode cX11_longest 18 = .ok (.getfield 7, 3) := by decide +kernel
theorem dX11_longest_21 : decode cX11_longest 21 = .ok (.aload_n 0, 1) := by decide +kernel
theorem dX11_longest_22 : decode cX11_longest 22 = .ok (.getfield 16, 3) := by decide +kernel
theorem dX11_longest_25 : decode cX11_longest 25 = .ok (.invokevirtual 188, 3) := by decide +kernel
theorem dX11_longest_28 : decode cX11_longest 28 = .ok (.iconst 0, 1) := by decide +kernel
theorem dX11_longest_29 : decode cX11_longest 29 = .ok (.istore_n 2, 1) := by decide +kernel
theorem dX11_longest_30 : decode cX11_longest 30 = .ok (.iconst 0, 1) := by decide +kernel
theorem dX11_longest_31 : decode cX11_longest 31 = .ok (.istore_n 3, 1) := by decide +kernel
theorem dX11_longest_32 : decode cX11_longest 32 = .ok (.iconst 0, 1) := by decide +kernel
theorem dX11_longest_33 : decode cX11_longest 33 = .ok (.istore 4, 2) := by decide +kernel
theorem dX11_longest_35 : decode cX11_longest 35 = .ok (.iload 4, 2) := by decide +kernel
theorem dX11_longest_37 : decode cX11_longest 37 = .ok (.aload_n 0, 1) := by decide +kernel
theorem dX11_longest_38 : decode cX11_longest 38 = .ok (.invokevirtual 75, 3) := by decide +kernel
theorem dX11_longest_41 : decode cX11_longest 41 = .ok (.if_icmp .ge 75, 3) := by decide +kernel
theorem dX11_longest_44 : decode cX11_longest 44 = .ok (.aload_n 0, 1) := by decide +kernel
theorem dX11_longest_45 : decode cX11_longest 45 = .ok (.iload 4, 2) := by decide +kernel
theorem dX11_longest_47 : decode cX11_longest 47 = .ok (.invokevirtual 179, 3) := by decide +kernel
theorem dX11_longest_50 : decode cX11_longest 50 = .ok (.istore 5, 2) := by decide +kernel
theorem dX11_longest_52 : decode cX11_longest 52 = .ok (.iload 5, 2) := by decide +kernel
theorem dX11_longest_54 : decode cX11_longest 54 = .ok (.ifCond .lt 15, 3) := by decide +kernel
theorem dX11_longest_57 : decode cX11_longest 57 = .ok (.aload_n 0, 1) := by decide +kernel
theorem dX11_longest_58 : decode cX11_longest 58 = .ok (.getfield 135, 3) := by decide +kernel
theorem dX11_longest_61 : decode cX11_longest 61 = .ok (.iload_n 3, 1) := by decide +kernel
theorem dX11_longest_62 : decode cX11_longest 62 = .ok (.if_icmp .le 7, 3) := by decide +kernel
theorem dX11_longest_65 : decode cX11_longest 65 = .ok (.iconst 1, 1) := by decide +kernel
theorem dX11_longest_66 : decode cX11_longest 66 = .ok (.goto 4, 3) := by decide +kernel
theorem dX11_longest_69 : decode cX11_longest 69 = .ok (.iconst 0, 1) := by decide +kernel
theorem dX11_longest_70 : decode cX11_longest 70 = .ok (.istore 6, 2) := by decide +kernel
theorem dX11_longest_72 : decode cX11_longest 72 = .ok (.iload 6, 2) := by decide +kernel
theorem dX11_longest_74 : decode cX11_longest 74 = .ok (.ifCond .eq 8, 3) := by decide +kernel
theorem dX11_longest_77 : decode cX11_longest 77 = .ok (.iload 4, 2) := by decide +kernel
theorem dX11_longest_79 : decode cX11_longest 79 = .ok (.goto 4, 3) := by decide +kernel
theorem dX11_longest_82 : decode cX11_longest 82 = .ok (.iload_n 2, 1) := by decide +kernel
theorem dX11_longest_83 : decode cX11_longest 83 = .ok (.istore_n 2, 1) := by decide +kernel
theorem dX11_longest_84 : decode cX11_longest 84 = .ok (.iload 6, 2) := by decide +kernel
theorem dX11_longest_86 : decode cX11_longest 86 = .ok (.ifCond .eq 10, 3) := by decide +kernel
theorem dX11_longest_89 : decode cX11_longest 89 = .ok (.aload_n 0, 1) := by decide +kernel
theorem dX11_longest_90 : decode cX11_longest 90 = .ok (.getfield 135, 3) := by decide +kernel
theorem dX11_longest_93 : decode cX11_longest 93 = .ok (.goto 4, 3) := by decide +kernel
theorem dX11_longest_96 : decode cX11_longest 96 = .ok (.iload_n 3, 1) := by decide +kernel
theorem dX11_longest_97 : decode cX11_longest 97 = .ok (.istore_n 3, 1) := by decide +kernel
theorem dX11_longest_98 : decode cX11_longest 98 = .ok (.aload_n 0, 1) := by decide +kernel
theorem dX11_longest_99 : decode cX11_longest 99 = .ok (.aload_n 0, 1) := by decide +kernel
theorem dX11_longest_100 : decode cX11_longest 100 = .ok (.getfield 16, 3) := by decide +kernel
theorem dX11_longest_103 : decode cX11_longest 103 = .ok (.aload_n 0, 1) := by decide +kernel
theorem dX11_longest_104 : decode cX11_longest 104 = .ok (.getfield 7, 3) := by decide +kernel
theorem dX11_longest_107 : decode cX11_longest 107 = .ok (.invokevirtual 188, 3) := by decide +kernel
theorem dX11_longest_110 : decode cX11_longest 110 = .ok (.iinc 4 1, 3) := by decide +kernel
theorem dX11_longest_113 : decode cX11_longest 113 = .ok (.goto (-78), 3) := by decide +kernel
theorem dX11_longest_116 : decode cX11_longest 116 = .ok (.iload_n 1, 1) := by decide +kernel
theorem dX11_longest_117 : decode cX11_longest 117 = .ok (.ifCond .ne 7, 3) := by decide +kernel
theorem dX11_longest_120 : decode cX11_longest 120 = .ok (.iload_n 2, 1) := by decide +kernel
theorem dX11_longest_121 : decode cX11_longest 121 = .ok (.goto 4, 3) := by decide +kernel
theorem dX11_longest_124 : decode cX11_longest 124 = .ok (.iload_n 3, 1) := by decide +kernel
theorem dX11_longest_125 : decode cX11_longest 125 = .ok (.ireturn, 1) := by decide +kernel
theorem dX11_drawn_0 : decode cX11_drawn 0 = .ok (.aload_n 0, 1) := by decide +kernel
theorem dX11_drawn_1 : decode cX11_drawn 1 = .ok (.getfield 7, 3) := by decide +kernel
theorem dX11_drawn_4 : decode cX11_drawn 4 = .ok (.iconst 4, 1) := by decide +kernel
theorem dX11_drawn_5 : decode cX11_drawn 5 = .ok (.aload_n 0, 1) := by decide +kernel
theorem dX11_drawn_6 : decode cX11_drawn 6 = .ok (.getfield 7, 3) := by decide +kernel
theorem dX11_drawn_9 : decode cX11_drawn 9 = .ok (.iconst 4, 1) := by decide +kernel
theorem dX11_drawn_10 : decode cX11_drawn 10 = .ok (.iaload, 1) := by decide +kernel
theorem dX11_drawn_11 : decode cX11_drawn 11 = .ok (.ldc_w 342, 3) := by decide +kernel
theorem dX11_drawn_14 : decode cX11_drawn 14 = .ok (.imul, 1) := by decide +kernel
theorem dX11_drawn_15 : decode cX11_drawn 15 = .ok (.sipush 12345, 3) := by decide +kernel
theorem dX11_drawn_18 : decode cX11_drawn 18 = .ok (.iadd, 1) := by decide +kernel
theorem dX11_drawn_19 : decode cX11_drawn 19 = .ok (.iastore, 1) := by decide +kernel
theorem dX11_drawn_20 : decode cX11_drawn 20 = .ok (.aload_n 0, 1) := by decide +kernel
theorem dX11_drawn_21 : decode cX11_drawn 21 = .ok (.getfield 7, 3) := by decide +kernel
theorem dX11_drawn_24 : decode cX11_drawn 24 = .ok (.iconst 4, 1) := by decide +kernel
theorem dX11_drawn_25 : decode cX11_drawn 25 = .ok (.iaload, 1) := by decide +kernel
theorem dX11_drawn_26 : decode cX11_drawn 26 = .ok (.bipush 8, 2) := by decide +kernel
theorem dX11_drawn_28 : decode cX11_drawn 28 = .ok (.iushr, 1) := by decide +kernel
theorem dX11_drawn_29 : decode cX11_drawn 29 = .ok (.iload_n 1, 1) := by decide +kernel
theorem dX11_drawn_30 : decode cX11_drawn 30 = .ok (.irem, 1) := by decide +kernel
theorem dX11_drawn_31 : decode cX11_drawn 31 = .ok (.ireturn, 1) := by decide +kernel
theorem dX11_days_0 : decode cX11_days 0 = .ok (.iload_n 1, 1) := by decide +kernel
theorem dX11_days_1 : decode cX11_days 1 = .ok (.iconst 1, 1) := by decide +kernel
theorem dX11_days_2 : decode cX11_days 2 = .ok (.sipush 200, 3) := by decide +kernel
theorem dX11_days_5 : decode cX11_days 5 = .ok (.invokestatic 71, 3) := by decide +kernel
theorem dX11_days_8 : decode cX11_days 8 = .ok (.ifCond .ne 10, 3) := by decide +kernel
theorem dX11_days_11 : decode cX11_days 11 = .ok (.aload_n 0, 1) := by decide +kernel
theorem dX11_days_12 : decode cX11_days 12 = .ok (.ldc 78, 2) := by decide +kernel
theorem dX11_days_14 : decode cX11_days 14 = .ok (.invokevirtual 79, 3) := by decide +kernel
theorem dX11_days_17 : decode cX11_days 17 = .ok (.ireturn, 1) := by decide +kernel
theorem dX11_days_18 : decode cX11_days 18 = .ok (.aload_n 0, 1) := by decide +kernel
theorem dX11_days_19 : decode cX11_days 19 = .ok (.getfield 7, 3) := by decide +kernel
theorem dX11_days_22 : decode cX11_days 22 = .ok (.iconst 3, 1) := by decide +kernel
theorem dX11_days_23 : decode cX11_days 23 = .ok (.iaload, 1) := by decide +kernel
theorem dX11_days_24 : decode cX11_days 24 = .ok (.iload_n 1, 1) := by decide +kernel
theorem dX11_days_25 : decode cX11_days 25 = .ok (.iadd, 1) := by decide +kernel
theorem dX11_days_26 : decode cX11_days 26 = .ok (.sipush 9999, 3) := by decide +kernel
theorem dX11_days_29 : decode cX11_days 29 = .ok (.if_icmp .le 10, 3) := by decide +kernel
theorem dX11_days_32 : decode cX11_days 32 = .ok (.aload_n 0, 1) := by decide +kernel
theorem dX11_days_33 : decode cX11_days 33 = .ok (.ldc 128, 2) := by decide +kernel
theorem dX11_days_35 : decode cX11_days 35 = .ok (.invokevirtual 79, 3) := by decide +kernel
theorem dX11_days_38 : decode cX11_days 38 = .ok (.ireturn, 1) := by decide +kernel
theorem dX11_days_39 : decode cX11_days 39 = .ok (.iconst 0, 1) := by decide +kernel
theorem dX11_days_40 : decode cX11_days 40 = .ok (.istore_n 2, 1) := by decide +kernel
theorem dX11_days_41 : decode cX11_days 41 = .ok (.iload_n 2, 1) := by decide +kernel
theorem dX11_days_42 : decode cX11_days 42 = .ok (.iload_n 1, 1) := by decide +kernel
theorem dX11_days_43 : decode cX11_days 43 = .ok (.if_icmp .ge 68, 3) := by decide +kernel
theorem dX11_days_46 : decode cX11_days 46 = .ok (.aload_n 0, 1) := by decide +kernel
theorem dX11_days_47 : decode cX11_days 47 = .ok (.aload_n 0, 1) := by decide +kernel
theorem dX11_days_48 : decode cX11_days 48 = .ok (.invokevirtual 67, 3) := by decide +kernel
theorem dX11_days_51 : decode cX11_days 51 = .ok (.invokevirtual 343, 3) := by decide +kernel
theorem dX11_days_54 : decode cX11_days 54 = .ok (.istore_n 3, 1) := by decide +kernel
theorem dX11_days_55 : decode cX11_days 55 = .ok (.aload_n 0, 1) := by decide +kernel
theorem dX11_days_56 : decode cX11_days 56 = .ok (.aload_n 0, 1) := by decide +kernel
theorem dX11_days_57 : decode cX11_days 57 = .ok (.invokevirtual 75, 3) := by decide +kernel
theorem dX11_days_60 : decode cX11_days 60 = .ok (.invokevirtual 343, 3) := by decide +kernel
theorem dX11_days_63 : decode cX11_days 63 = .ok (.istore 4, 2) := by decide +kernel
theorem dX11_days_65 : decode cX11_days 65 = .ok (.aload_n 0, 1) := by decide +kernel
theorem dX11_days_66 : decode cX11_days 66 = .ok (.iload_n 3, 1) := by decide +kernel
theorem dX11_days_67 : decode cX11_days 67 = .ok (.invokevirtual 99, 3) := by decide +kernel
theorem dX11_days_70 : decode cX11_days 70 = .ok (.ifCond .eq 8, 3) := by decide +kernel
theorem dX11_days_73 : decode cX11_days 73 = .ok (.aload_n 0, 1) := by decide +kernel
theorem dX11_days_74 : decode cX11_days 74 = .ok (.iload_n 3, 1) := by decide +kernel
theorem dX11_days_75 : decode cX11_days 75 = .ok (.invokevirtual 129, 3) := by decide +kernel
theorem dX11_days_78 : decode cX11_days 78 = .ok (.aload_n 0, 1) := by decide +kernel
theorem dX11_days_79 : decode cX11_days 79 = .ok (.iload 4, 2) := by decide +kernel
theorem dX11_days_81 : decode cX11_days 81 = .ok (.invokevirtual 185, 3) := by decide +kernel
theorem dX11_days_84 : decode cX11_days 84 = .ok (.istore 5, 2) := by decide +kernel
theorem dX11_days_86 : decode cX11_days 86 = .ok (.aload_n 0, 1) := by decide +kernel
theorem dX11_days_87 : decode cX11_days 87 = .ok (.getfield 7, 3) := by decide +kernel
theorem dX11_days_90 : decode cX11_days 90 = .ok (.iconst 3, 1) := by decide +kernel
theorem dX11_days_91 : decode cX11_days 91 = .ok (.dup2, 1) := by decide +kernel
theorem dX11_days_92 : decode cX11_days 92 = .ok (.iaload, 1) := by decide +kernel
theorem dX11_days_93 : decode cX11_days 93 = .ok (.iload 5, 2) := by decide +kernel
theorem dX11_days_95 : decode cX11_days 95 = .ok (.ifCond .ge 7, 3) := by decide +kernel
theorem dX11_days_98 : decode cX11_days 98 = .ok (.iconst 0, 1) := by decide +kernel
theorem dX11_days_99 : decode cX11_days 99 = .ok (.goto 4, 3) := by decide +kernel
theorem dX11_days_102 : decode cX11_days 102 = .ok (.iconst 1, 1) := by decide +kernel
theorem dX11_days_103 : decode cX11_days 103 = .ok (.iadd, 1) := by decide +kernel
theorem dX11_days_104 : decode cX11_days 104 = .ok (.iastore, 1) := by decide +kernel
theorem dX11_days_105 : decode cX11_days 105 = .ok (.iinc 2 1, 3) := by decide +kernel
theorem dX11_days_108 : decode cX11_days 108 = .ok (.goto (-67), 3) := by decide +kernel
theorem dX11_days_111 : decode cX11_days 111 = .ok (.aload_n 0, 1) := by decide +kernel
theorem dX11_days_112 : decode cX11_days 112 = .ok (.getfield 7, 3) := by decide +kernel
theorem dX11_days_115 : decode cX11_days 115 = .ok (.iconst 2, 1) := by decide +kernel
theorem dX11_days_116 : decode cX11_days 116 = .ok (.iaload, 1) := by decide +kernel
theorem dX11_days_117 : decode cX11_days 117 = .ok (.ireturn, 1) := by decide +kernel
theorem dX11_seed_0 : decode cX11_seed 0 = .ok (.aload_n 0, 1) := by decide +kernel
theorem dX11_seed_1 : decode cX11_seed 1 = .ok (.getfield 7, 3) := by decide +kernel
theorem dX11_seed_4 : decode cX11_seed 4 = .ok (.iconst 4, 1) := by decide +kernel
theorem dX11_seed_5 : decode cX11_seed 5 = .ok (.iaload, 1) := by decide +kernel
theorem dX11_seed_6 : decode cX11_seed 6 = .ok (.istore_n 2, 1) := by decide +kernel
theorem dX11_seed_7 : decode cX11_seed 7 = .ok (.aload_n 0, 1) := by decide +kernel
theorem dX11_seed_8 : decode cX11_seed 8 = .ok (.getfield 7, 3) := by decide +kernel
theorem dX11_seed_11 : decode cX11_seed 11 = .ok (.iconst 4, 1) := by decide +kernel
theorem dX11_seed_12 : decode cX11_seed 12 = .ok (.iload_n 1, 1) := by decide +kernel
theorem dX11_seed_13 : decode cX11_seed 13 = .ok (.iastore, 1) := by decide +kernel
theorem dX11_seed_14 : decode cX11_seed 14 = .ok (.iload_n 2, 1) := by decide +kernel
theorem dX11_seed_15 : decode cX11_seed 15 = .ok (.ireturn, 1) := by decide +kernel
theorem dX11_ran_0 : decode cX11_ran 0 = .ok (.aload_n 0, 1) := by decide +kernel
theorem dX11_ran_1 : decode cX11_ran 1 = .ok (.getfield 346, 3) := by decide +kernel
theorem dX11_ran_4 : decode cX11_ran 4 = .ok (.bipush 40, 2) := by decide +kernel
theorem dX11_ran_6 : decode cX11_ran 6 = .ok (.if_icmp .ge 23, 3) := by decide +kernel
theorem dX11_ran_9 : decode cX11_ran 9 = .ok (.aload_n 0, 1) := by decide +kernel
theorem dX11_ran_10 : decode cX11_ran 10 = .ok (.getfield 63, 3) := by decide +kernel
theorem dX11_ran_13 : decode cX11_ran 13 = .ok (.aload_n 0, 1) := by decide +kernel
theorem dX11_ran_14 : decode cX11_ran 14 = .ok (.getfield 346, 3) := by decide +kernel
theorem dX11_ran_17 : decode cX11_ran 17 = .ok (.iload_n 1, 1) := by decide +kernel
theorem dX11_ran_18 : decode cX11_ran 18 = .ok (.iastore, 1) := by decide +kernel
theorem dX11_ran_19 : decode cX11_ran 19 = .ok (.aload_n 0, 1) := by decide +kernel
theorem dX11_ran_20 : decode cX11_ran 20 = .ok (.dup, 1) := by decide +kernel
theorem dX11_ran_21 : decode cX11_ran 21 = .ok (.getfield 346, 3) := by decide +kernel
theorem dX11_ran_24 : decode cX11_ran 24 = .ok (.iconst 1, 1) := by decide +kernel
theorem dX11_ran_25 : decode cX11_ran 25 = .ok (.iadd, 1) := by decide +kernel
theorem dX11_ran_26 : decode cX11_ran 26 = .ok (.putfield 346, 3) := by decide +kernel
theorem dX11_ran_29 : decode cX11_ran 29 = .ok (.return_, 1) := by decide +kernel
theorem dX11_casts_0 : decode cX11_casts 0 = .ok (.iload_n 1, 1) := by decide +kernel
theorem dX11_casts_1 : decode cX11_casts 1 = .ok (.ifCond .ne 16, 3) := by decide +kernel
theorem dX11_casts_4 : decode cX11_casts 4 = .ok (.aload_n 0, 1) := by decide +kernel
theorem dX11_casts_5 : decode cX11_casts 5 = .ok (.bipush 10, 2) := by decide +kernel
theorem dX11_casts_7 : decode cX11_casts 7 = .ok (.invokevirtual 349, 3) := by decide +kernel
theorem dX11_casts_10 : decode cX11_casts 10 = .ok (.iload_n 2, 1) := by decide +kernel
theorem dX11_casts_11 : decode cX11_casts 11 = .ok (.aload_n 0, 1) := by decide +kernel
theorem dX11_casts_12 : decode cX11_casts 12 = .ok (.getfield 352, 3) := by decide +kernel
theorem dX11_casts_15 : decode cX11_casts 15 = .ok (.iadd, 1) := by decide +kernel
theorem dX11_casts_16 : decode cX11_casts 16 = .ok (.ireturn, 1) := by decide +kernel
theorem dX11_casts_17 : decode cX11_casts 17 = .ok (.iload_n 1, 1) := by decide +kernel
theorem dX11_casts_18 : decode cX11_casts 18 = .ok (.iconst 2, 1) := by decide +kernel
theorem dX11_casts_19 : decode cX11_casts 19 = .ok (.if_icmp .ne 18, 3) := by decide +kernel
theorem dX11_casts_22 : decode cX11_casts 22 = .ok (.aload_n 0, 1) := by decide +kernel
theorem dX11_casts_23 : decode cX11_casts 23 = .ok (.bipush 30, 2) := by decide +kernel
theorem dX11_casts_25 : decode cX11_casts 25 = .ok (.invokevirtual 349, 3) := by decide +kernel
theorem dX11_casts_28 : decode cX11_casts 28 = .ok (.aload_n 0, 1) := by decide +kernel
theorem dX11_casts_29 : decode cX11_casts 29 = .ok (.iconst 0, 1) := by decide +kernel
theorem dX11_casts_30 : decode cX11_casts 30 = .ok (.iload_n 2, 1) := by decide +kernel
theorem dX11_casts_31 : decode cX11_casts 31 = .ok (.invokevirtual 355, 3) := by decide +kernel
theorem dX11_casts_34 : decode cX11_casts 34 = .ok (.iconst 3, 1) := by decide +kernel
theorem dX11_casts_35 : decode cX11_casts 35 = .ok (.imul, 1) := by decide +kernel
theorem dX11_casts_36 : decode cX11_casts 36 = .ok (.ireturn, 1) := by decide +kernel
theorem dX11_casts_37 : decode cX11_casts 37 = .ok (.aload_n 0, 1) := by decide +kernel
theorem dX11_casts_38 : decode cX11_casts 38 = .ok (.iload_n 1, 1) := by decide +kernel
theorem dX11_casts_39 : decode cX11_casts 39 = .ok (.invokestatic 111, 3) := by decide +kernel
theorem dX11_casts_42 : decode cX11_casts 42 = .ok (.iload_n 2, 1) := by decide +kernel
theorem dX11_casts_43 : decode cX11_casts 43 = .ok (.invokevirtual 355, 3) := by decide +kernel
theorem dX11_casts_46 : decode cX11_casts 46 = .ok (.ireturn, 1) := by decide +kernel
theorem dX11_lightsBy_0 : decode cX11_lightsBy 0 = .ok (.iload_n 1, 1) := by decide +kernel
theorem dX11_lightsBy_1 : decode cX11_lightsBy 1 = .ok (.ifCond .ne 16, 3) := by decide +kernel
theorem dX11_lightsBy_4 : decode cX11_lightsBy 4 = .ok (.aload_n 0, 1) := by decide +kernel
theorem dX11_lightsBy_5 : decode cX11_lightsBy 5 = .ok (.bipush 12, 2) := by decide +kernel
theorem dX11_lightsBy_7 : decode cX11_lightsBy 7 = .ok (.invokevirtual 349, 3) := by decide +kernel
theorem dX11_lightsBy_10 : decode cX11_lightsBy 10 = .ok (.iload_n 2, 1) := by decide +kernel
theorem dX11_lightsBy_11 : decode cX11_lightsBy 11 = .ok (.aload_n 0, 1) := by decide +kernel
theorem dX11_lightsBy_12 : decode cX11_lightsBy 12 = .ok (.getfield 358, 3) := by decide +kernel
theorem dX11_lightsBy_15 : decode cX11_lightsBy 15 = .ok (.isub, 1) := by decide +kernel
theorem dX11_lightsBy_16 : decode cX11_lightsBy 16 = .ok (.ireturn, 1) := by decide +kernel
theorem dX11_lightsBy_17 : decode cX11_lightsBy 17 = .ok (.iload_n 1, 1) := by decide +kernel
theorem dX11_lightsBy_18 : decode cX11_lightsBy 18 = .ok (.iconst 3, 1) := by decide +kernel
theorem dX11_lightsBy_19 : decode cX11_lightsBy 19 = .ok (.if_icmp .ne 17, 3) := by decide +kernel
theorem dX11_lightsBy_22 : decode cX11_lightsBy 22 = .ok (.aload_n 0, 1) := by decide +kernel
theorem dX11_lightsBy_23 : decode cX11_lightsBy 23 = .ok (.bipush 40, 2) := by decide +kernel
theorem dX11_lightsBy_25 : decode cX11_lightsBy 25 = .ok (.invokevirtual 349, 3) := by decide +kernel
theorem dX11_lightsBy_28 : decode cX11_lightsBy 28 = .ok (.aload_n 0, 1) := by decide +kernel
theorem dX11_lightsBy_29 : decode cX11_lightsBy 29 = .ok (.iconst 0, 1) := by decide +kernel
theorem dX11_lightsBy_30 : decode cX11_lightsBy 30 = .ok (.iload_n 2, 1) := by decide +kernel
theorem dX11_lightsBy_31 : decode cX11_lightsBy 31 = .ok (.invokevirtual 361, 3) := by decide +kernel
theorem dX11_lightsBy_34 : decode cX11_lightsBy 34 = .ok (.ineg, 1) := by decide +kernel
theorem dX11_lightsBy_35 : decode cX11_lightsBy 35 = .ok (.ireturn, 1) := by decide +kernel
theorem dX11_lightsBy_36 : decode cX11_lightsBy 36 = .ok (.iload_n 1, 1) := by decide +kernel
theorem dX11_lightsBy_37 : decode cX11_lightsBy 37 = .ok (.bipush 6, 2) := by decide +kernel
theorem dX11_lightsBy_39 : decode cX11_lightsBy 39 = .ok (.if_icmp .ne 21, 3) := by decide +kernel
theorem dX11_lightsBy_42 : decode cX11_lightsBy 42 = .ok (.aload_n 0, 1) := by decide +kernel
theorem dX11_lightsBy_43 : decode cX11_lightsBy 43 = .ok (.bipush 70, 2) := by decide +kernel
theorem dX11_lightsBy_45 : decode cX11_lightsBy 45 = .ok (.invokevirtual 349, 3) := by decide +kernel
theorem dX11_lightsBy_48 : decode cX11_lightsBy 48 = .ok (.aload_n 0, 1) := by decide +kernel
theorem dX11_lightsBy_49 : decode cX11_lightsBy 49 = .ok (.iconst 2, 1) := by decide +kernel
theorem dX11_lightsBy_50 : decode cX11_lightsBy 50 = .ok (.iload_n 2, 1) := by decide +kernel
theorem dX11_lightsBy_51 : decode cX11_lightsBy 51 = .ok (.invokevirtual 361, 3) := by decide +kernel
theorem dX11_lightsBy_54 : decode cX11_lightsBy 54 = .ok (.aload_n 0, 1) := by decide +kernel
theorem dX11_lightsBy_55 : decode cX11_lightsBy 55 = .ok (.getfield 352, 3) := by decide +kernel
theorem dX11_lightsBy_58 : decode cX11_lightsBy 58 = .ok (.ixor, 1) := by decide +kernel
theorem dX11_lightsBy_59 : decode cX11_lightsBy 59 = .ok (.ireturn, 1) := by decide +kernel
theorem dX11_lightsBy_60 : decode cX11_lightsBy 60 = .ok (.aload_n 0, 1) := by decide +kernel
theorem dX11_lightsBy_61 : decode cX11_lightsBy 61 = .ok (.iload_n 1, 1) := by decide +kernel
theorem dX11_lightsBy_62 : decode cX11_lightsBy 62 = .ok (.invokestatic 111, 3) := by decide +kernel
theorem dX11_lightsBy_65 : decode cX11_lightsBy 65 = .ok (.iload_n 2, 1) := by decide +kernel
theorem dX11_lightsBy_66 : decode cX11_lightsBy 66 = .ok (.invokevirtual 361, 3) := by decide +kernel
theorem dX11_lightsBy_69 : decode cX11_lightsBy 69 = .ok (.ireturn, 1) := by decide +kernel
theorem dX11_turnsBy_0 : decode cX11_turnsBy 0 = .ok (.iload_n 1, 1) := by decide +kernel
theorem dX11_turnsBy_1 : decode cX11_turnsBy 1 = .ok (.ifCond .ne 21, 3) := by decide +kernel
theorem dX11_turnsBy_4 : decode cX11_turnsBy 4 = .ok (.aload_n 0, 1) := by decide +kernel
theorem dX11_turnsBy_5 : decode cX11_turnsBy 5 = .ok (.bipush 11, 2) := by decide +kernel
theorem dX11_turnsBy_7 : decode cX11_turnsBy 7 = .ok (.invokevirtual 349, 3) := by decide +kernel
theorem dX11_turnsBy_10 : decode cX11_turnsBy 10 = .ok (.aload_n 0, 1) := by decide +kernel
theorem dX11_turnsBy_11 : decode cX11_turnsBy 11 = .ok (.aload_n 0, 1) := by decide +kernel
theorem dX11_turnsBy_12 : decode cX11_turnsBy 12 = .ok (.getfield 364, 3) := by decide +kernel
theorem dX11_turnsBy_15 : decode cX11_turnsBy 15 = .ok (.iload_n 2, 1) := by decide +kernel
theorem dX11_turnsBy_16 : decode cX11_turnsBy 16 = .ok (.invokevirtual 355, 3) := by decide +kernel
theorem dX11_turnsBy_19 : decode cX11_turnsBy 19 = .ok (.iconst 2, 1) := by decide +kernel
theorem dX11_turnsBy_20 : decode cX11_turnsBy 20 = .ok (.imul, 1) := by decide +kernel
theorem dX11_turnsBy_21 : decode cX11_turnsBy 21 = .ok (.ireturn, 1) := by decide +kernel
theorem dX11_turnsBy_22 : decode cX11_turnsBy 22 = .ok (.iload_n 1, 1) := by decide +kernel
theorem dX11_turnsBy_23 : decode cX11_turnsBy 23 = .ok (.iconst 1, 1) := by decide +kernel
theorem dX11_turnsBy_24 : decode cX11_turnsBy 24 = .ok (.if_icmp .ne 28, 3) := by decide +kernel
theorem dX11_turnsBy_27 : decode cX11_turnsBy 27 = .ok (.aload_n 0, 1) := by decide +kernel
theorem dX11_turnsBy_28 : decode cX11_turnsBy 28 = .ok (.bipush 20, 2) := by decide +kernel
theorem dX11_turnsBy_30 : decode cX11_turnsBy 30 = .ok (.invokevirtual 349, 3) := by decide +kernel
theorem dX11_turnsBy_33 : decode cX11_turnsBy 33 = .ok (.aload_n 0, 1) := by decide +kernel
theorem dX11_turnsBy_34 : decode cX11_turnsBy 34 = .ok (.iconst 0, 1) := by decide +kernel
theorem dX11_turnsBy_35 : decode cX11_turnsBy 35 = .ok (.iload_n 2, 1) := by decide +kernel
theorem dX11_turnsBy_36 : decode cX11_turnsBy 36 = .ok (.invokevirtual 367, 3) := by decide +kernel
theorem dX11_turnsBy_39 : decode cX11_turnsBy 39 = .ok (.istore_n 3, 1) := by decide +kernel
theorem dX11_turnsBy_40 : decode cX11_turnsBy 40 = .ok (.iload_n 3, 1) := by decide +kernel
theorem dX11_turnsBy_41 : decode cX11_turnsBy 41 = .ok (.aload_n 0, 1) := by decide +kernel
theorem dX11_turnsBy_42 : decode cX11_turnsBy 42 = .ok (.aload_n 0, 1) := by decide +kernel
theorem dX11_turnsBy_43 : decode cX11_turnsBy 43 = .ok (.getfield 364, 3) := by decide +kernel
theorem dX11_turnsBy_46 : decode cX11_turnsBy 46 = .ok (.iconst 1, 1) := by decide +kernel
theorem dX11_turnsBy_47 : decode cX11_turnsBy 47 = .ok (.invokevirtual 361, 3) := by decide +kernel
theorem dX11_turnsBy_50 : decode cX11_turnsBy 50 = .ok (.isub, 1) := by decide +kernel
theorem dX11_turnsBy_51 : decode cX11_turnsBy 51 = .ok (.ireturn, 1) := by decide +kernel
theorem dX11_turnsBy_52 : decode cX11_turnsBy 52 = .ok (.iload_n 1, 1) := by decide +kernel
theorem dX11_turnsBy_53 : decode cX11_turnsBy 53 = .ok (.iconst 4, 1) := by decide +kernel
theorem dX11_turnsBy_54 : decode cX11_turnsBy 54 = .ok (.if_icmp .ne 18, 3) := by decide +kernel
theorem dX11_turnsBy_57 : decode cX11_turnsBy 57 = .ok (.aload_n 0, 1) := by decide +kernel
theorem dX11_turnsBy_58 : decode cX11_turnsBy 58 = .ok (.bipush 50, 2) := by decide +kernel
theorem dX11_turnsBy_60 : decode cX11_turnsBy 60 = .ok (.invokevirtual 349, 3) := by decide +kernel
theorem dX11_turnsBy_63 : decode cX11_turnsBy 63 = .ok (.aload_n 0, 1) := by decide +kernel
theorem dX11_turnsBy_64 : decode cX11_turnsBy 64 = .ok (.iconst 1, 1) := by decide +kernel
theorem dX11_turnsBy_65 : decode cX11_turnsBy 65 = .ok (.iload_n 2, 1) := by decide +kernel
theorem dX11_turnsBy_66 : decode cX11_turnsBy 66 = .ok (.iconst 1, 1) := by decide +kernel
theorem dX11_turnsBy_67 : decode cX11_turnsBy 67 = .ok (.iadd, 1) := by decide +kernel
theorem dX11_turnsBy_68 : decode cX11_turnsBy 68 = .ok (.invokevirtual 367, 3) := by decide +kernel
theorem dX11_turnsBy_71 : decode cX11_turnsBy 71 = .ok (.ireturn, 1) := by decide +kernel
theorem dX11_turnsBy_72 : decode cX11_turnsBy 72 = .ok (.aload_n 0, 1) := by decide +kernel
theorem dX11_turnsBy_73 : decode cX11_turnsBy 73 = .ok (.iload_n 1, 1) := by decide +kernel
theorem dX11_turnsBy_74 : decode cX11_turnsBy 74 = .ok (.invokestatic 111, 3) := by decide +kernel
theorem dX11_turnsBy_77 : decode cX11_turnsBy 77 = .ok (.iload_n 2, 1) := by decide +kernel
theorem dX11_turnsBy_78 : decode cX11_turnsBy 78 = .ok (.invokevirtual 367, 3) := by decide +kernel
theorem dX11_turnsBy_81 : decode cX11_turnsBy 81 = .ok (.ireturn, 1) := by decide +kernel
theorem dX11_tellsBy_0 : decode cX11_tellsBy 0 = .ok (.iload_n 1, 1) := by decide +kernel
theorem dX11_tellsBy_1 : decode cX11_tellsBy 1 = .ok (.ifCond .ne 31, 3) := by decide +kernel
theorem dX11_tellsBy_4 : decode cX11_tellsBy 4 = .ok (.aload_n 0, 1) := by decide +kernel
theorem dX11_tellsBy_5 : decode cX11_tellsBy 5 = .ok (.bipush 13, 2) := by decide +kernel
theorem dX11_tellsBy_7 : decode cX11_tellsBy 7 = .ok (.invokevirtual 349, 3) := by decide +kernel
theorem dX11_tellsBy_10 : decode cX11_tellsBy 10 = .ok (.aload_n 0, 1) := by decide +kernel
theorem dX11_tellsBy_11 : decode cX11_tellsBy 11 = .ok (.aload_n 0, 1) := by decide +kernel
theorem dX11_tellsBy_12 : decode cX11_tellsBy 12 = .ok (.getfield 364, 3) := by decide +kernel
theorem dX11_tellsBy_15 : decode cX11_tellsBy 15 = .ok (.iload_n 2, 1) := by decide +kernel
theorem dX11_tellsBy_16 : decode cX11_tellsBy 16 = .ok (.invokevirtual 367, 3) := by decide +kernel
theorem dX11_tellsBy_19 : decode cX11_tellsBy 19 = .ok (.istore_n 3, 1) := by decide +kernel
theorem dX11_tellsBy_20 : decode cX11_tellsBy 20 = .ok (.iload_n 3, 1) := by decide +kernel
theorem dX11_tellsBy_21 : decode cX11_tellsBy 21 = .ok (.aload_n 0, 1) := by decide +kernel
theorem dX11_tellsBy_22 : decode cX11_tellsBy 22 = .ok (.aload_n 0, 1) := by decide +kernel
theorem dX11_tellsBy_23 : decode cX11_tellsBy 23 = .ok (.getfield 364, 3) := by decide +kernel
theorem dX11_tellsBy_26 : decode cX11_tellsBy 26 = .ok (.iload_n 2, 1) := by decide +kernel
theorem dX11_tellsBy_27 : decode cX11_tellsBy 27 = .ok (.invokevirtual 361, 3) := by decide +kernel
theorem dX11_tellsBy_30 : decode cX11_tellsBy 30 = .ok (.ixor, 1) := by decide +kernel
theorem dX11_tellsBy_31 : decode cX11_tellsBy 31 = .ok (.ireturn, 1) := by decide +kernel
theorem dX11_tellsBy_32 : decode cX11_tellsBy 32 = .ok (.iload_n 1, 1) := by decide +kernel
theorem dX11_tellsBy_33 : decode cX11_tellsBy 33 = .ok (.iconst 5, 1) := by decide +kernel
theorem dX11_tellsBy_34 : decode cX11_tellsBy 34 = .ok (.if_icmp .ne 28, 3) := by decide +kernel
theorem dX11_tellsBy_37 : decode cX11_tellsBy 37 = .ok (.aload_n 0, 1) := by decide +kernel
theorem dX11_tellsBy_38 : decode cX11_tellsBy 38 = .ok (.bipush 60, 2) := by decide +kernel
theorem dX11_tellsBy_40 : decode cX11_tellsBy 40 = .ok (.invokevirtual 349, 3) := by decide +kernel
theorem dX11_tellsBy_43 : decode cX11_tellsBy 43 = .ok (.aload_n 0, 1) := by decide +kernel
theorem dX11_tellsBy_44 : decode cX11_tellsBy 44 = .ok (.iconst 1, 1) := by decide +kernel
theorem dX11_tellsBy_45 : decode cX11_tellsBy 45 = .ok (.iload_n 2, 1) := by decide +kernel
theorem dX11_tellsBy_46 : decode cX11_tellsBy 46 = .ok (.invokevirtual 370, 3) := by decide +kernel
theorem dX11_tellsBy_49 : decode cX11_tellsBy 49 = .ok (.istore_n 3, 1) := by decide +kernel
theorem dX11_tellsBy_50 : decode cX11_tellsBy 50 = .ok (.iload_n 3, 1) := by decide +kernel
theorem dX11_tellsBy_51 : decode cX11_tellsBy 51 = .ok (.aload_n 0, 1) := by decide +kernel
theorem dX11_tellsBy_52 : decode cX11_tellsBy 52 = .ok (.aload_n 0, 1) := by decide +kernel
theorem dX11_tellsBy_53 : decode cX11_tellsBy 53 = .ok (.getfield 364, 3) := by decide +kernel
theorem dX11_tellsBy_56 : decode cX11_tellsBy 56 = .ok (.iconst 2, 1) := by decide +kernel
theorem dX11_tellsBy_57 : decode cX11_tellsBy 57 = .ok (.invokevirtual 355, 3) := by decide +kernel
theorem dX11_tellsBy_60 : decode cX11_tellsBy 60 = .ok (.isub, 1) := by decide +kernel
theorem dX11_tellsBy_61 : decode cX11_tellsBy 61 = .ok (.ireturn, 1) := by decide +kernel
theorem dX11_tellsBy_62 : decode cX11_tellsBy 62 = .ok (.iload_n 1, 1) := by decide +kernel
theorem dX11_tellsBy_63 : decode cX11_tellsBy 63 = .ok (.bipush 6, 2) := by decide +kernel
theorem dX11_tellsBy_65 : decode cX11_tellsBy 65 = .ok (.if_icmp .ne 28, 3) := by decide +kernel
theorem dX11_tellsBy_68 : decode cX11_tellsBy 68 = .ok (.aload_n 0, 1) := by decide +kernel
theorem dX11_tellsBy_69 : decode cX11_tellsBy 69 = .ok (.bipush 71, 2) := by decide +kernel
theorem dX11_tellsBy_71 : decode cX11_tellsBy 71 = .ok (.invokevirtual 349, 3) := by decide +kernel
theorem dX11_tellsBy_74 : decode cX11_tellsBy 74 = .ok (.aload_n 0, 1) := by decide +kernel
theorem dX11_tellsBy_75 : decode cX11_tellsBy 75 = .ok (.aload_n 0, 1) := by decide +kernel
theorem dX11_tellsBy_76 : decode cX11_tellsBy 76 = .ok (.getfield 364, 3) := by decide +kernel
theorem dX11_tellsBy_79 : decode cX11_tellsBy 79 = .ok (.iload_n 2, 1) := by decide +kernel
theorem dX11_tellsBy_80 : decode cX11_tellsBy 80 = .ok (.invokevirtual 367, 3) := by decide +kernel
theorem dX11_tellsBy_83 : decode cX11_tellsBy 83 = .ok (.istore_n 3, 1) := by decide +kernel
theorem dX11_tellsBy_84 : decode cX11_tellsBy 84 = .ok (.iload_n 3, 1) := by decide +kernel
theorem dX11_tellsBy_85 : decode cX11_tellsBy 85 = .ok (.aload_n 0, 1) := by decide +kernel
theorem dX11_tellsBy_86 : decode cX11_tellsBy 86 = .ok (.iconst 2, 1) := by decide +kernel
theorem dX11_tellsBy_87 : decode cX11_tellsBy 87 = .ok (.iload_n 2, 1) := by decide +kernel
theorem dX11_tellsBy_88 : decode cX11_tellsBy 88 = .ok (.invokevirtual 370, 3) := by decide +kernel
theorem dX11_tellsBy_91 : decode cX11_tellsBy 91 = .ok (.isub, 1) := by decide +kernel
theorem dX11_tellsBy_92 : decode cX11_tellsBy 92 = .ok (.ireturn, 1) := by decide +kernel
theorem dX11_tellsBy_93 : decode cX11_tellsBy 93 = .ok (.aload_n 0, 1) := by decide +kernel
theorem dX11_tellsBy_94 : decode cX11_tellsBy 94 = .ok (.iload_n 1, 1) := by decide +kernel
theorem dX11_tellsBy_95 : decode cX11_tellsBy 95 = .ok (.invokestatic 111, 3) := by decide +kernel
theorem dX11_tellsBy_98 : decode cX11_tellsBy 98 = .ok (.iload_n 2, 1) := by decide +kernel
theorem dX11_tellsBy_99 : decode cX11_tellsBy 99 = .ok (.invokevirtual 370, 3) := by decide +kernel
theorem dX11_tellsBy_102 : decode cX11_tellsBy 102 = .ok (.ireturn, 1) := by decide +kernel
theorem dX11_voice_0 : decode cX11_voice 0 = .ok (.aload_n 0, 1) := by decide +kernel
theorem dX11_voice_1 : decode cX11_voice 1 = .ok (.iload_n 1, 1) := by decide +kernel
theorem dX11_voice_2 : decode cX11_voice 2 = .ok (.invokevirtual 83, 3) := by decide +kernel
theorem dX11_voice_5 : decode cX11_voice 5 = .ok (.ifCond .eq 12, 3) := by decide +kernel
theorem dX11_voice_8 : decode cX11_voice 8 = .ok (.iload_n 2, 1) := by decide +kernel
theorem dX11_voice_9 : decode cX11_voice 9 = .ok (.iconst 0, 1) := by decide +kernel
theorem dX11_voice_10 : decode cX11_voice 10 = .ok (.iconst 3, 1) := by decide +kernel
theorem dX11_voice_11 : decode cX11_voice 11 = .ok (.invokestatic 71, 3) := by decide +kernel
theorem dX11_voice_14 : decode cX11_voice 14 = .ok (.ifCond .ne 10, 3) := by decide +kernel
theorem dX11_voice_17 : decode cX11_voice 17 = .ok (.aload_n 0, 1) := by decide +kernel
theorem dX11_voice_18 : decode cX11_voice 18 = .ok (.ldc 78, 2) := by decide +kernel
theorem dX11_voice_20 : decode cX11_voice 20 = .ok (.invokevirtual 79, 3) := by decide +kernel
theorem dX11_voice_23 : decode cX11_voice 23 = .ok (.ireturn, 1) := by decide +kernel
theorem dX11_voice_24 : decode cX11_voice 24 = .ok (.aload_n 0, 1) := by decide +kernel
theorem dX11_voice_25 : decode cX11_voice 25 = .ok (.iconst 0, 1) := by decide +kernel
theorem dX11_voice_26 : decode cX11_voice 26 = .ok (.putfield 346, 3) := by decide +kernel
theorem dX11_voice_29 : decode cX11_voice 29 = .ok (.aload_n 0, 1) := by decide +kernel
theorem dX11_voice_30 : decode cX11_voice 30 = .ok (.aload_n 0, 1) := by decide +kernel
theorem dX11_voice_31 : decode cX11_voice 31 = .ok (.iload_n 1, 1) := by decide +kernel
theorem dX11_voice_32 : decode cX11_voice 32 = .ok (.iconst 0, 1) := by decide +kernel
theorem dX11_voice_33 : decode cX11_voice 33 = .ok (.invokevirtual 87, 3) := by decide +kernel
theorem dX11_voice_36 : decode cX11_voice 36 = .ok (.putfield 364, 3) := by decide +kernel
theorem dX11_voice_39 : decode cX11_voice 39 = .ok (.aload_n 0, 1) := by decide +kernel
theorem dX11_voice_40 : decode cX11_voice 40 = .ok (.iload_n 1, 1) := by decide +kernel
theorem dX11_voice_41 : decode cX11_voice 41 = .ok (.putfield 352, 3) := by decide +kernel
theorem dX11_voice_44 : decode cX11_voice 44 = .ok (.aload_n 0, 1) := by decide +kernel
theorem dX11_voice_45 : decode cX11_voice 45 = .ok (.aload_n 0, 1) := by decide +kernel
theorem dX11_voice_46 : decode cX11_voice 46 = .ok (.iload_n 1, 1) := by decide +kernel
theorem dX11_voice_47 : decode cX11_voice 47 = .ok (.iconst 1, 1) := by decide +kernel
theorem dX11_voice_48 : decode cX11_voice 48 = .ok (.invokevirtual 87, 3) := by decide +kernel
theorem dX11_voice_51 : decode cX11_voice 51 = .ok (.putfield 358, 3) := by decide +kernel
theorem dX11_voice_54 : decode cX11_voice 54 = .ok (.iload_n 2, 1) := by decide +kernel
theorem dX11_voice_55 : decode cX11_voice 55 = .ok (.tableswitch 55 0 2 #[25, 35, 45], 25) := by decide +kernel
theorem dX11_voice_80 : decode cX11_voice 80 = .ok (.aload_n 0, 1) := by decide +kernel
theorem dX11_voice_81 : decode cX11_voice 81 = .ok (.aload_n 0, 1) := by decide +kernel
theorem dX11_voice_82 : decode cX11_voice 82 = .ok (.getfield 364, 3) := by decide +kernel
theorem dX11_voice_85 : decode cX11_voice 85 = .ok (.iload_n 3, 1) := by decide +kernel
theorem dX11_voice_86 : decode cX11_voice 86 = .ok (.invokevirtual 355, 3) := by decide +kernel
theorem dX11_voice_89 : decode cX11_voice 89 = .ok (.ireturn, 1) := by decide +kernel
theorem dX11_voice_90 : decode cX11_voice 90 = .ok (.aload_n 0, 1) := by decide +kernel
theorem dX11_voice_91 : decode cX11_voice 91 = .ok (.aload_n 0, 1) := by decide +kernel
theorem dX11_voice_92 : decode cX11_voice 92 = .ok (.getfield 364, 3) := by decide +kernel
theorem dX11_voice_95 : decode cX11_voice 95 = .ok (.iload_n 3, 1) := by decide +kernel
theorem dX11_voice_96 : decode cX11_voice 96 = .ok (.invokevirtual 367, 3) := by decide +kernel
theorem dX11_voice_99 : decode cX11_voice 99 = .ok (.ireturn, 1) := by decide +kernel
theorem dX11_voice_100 : decode cX11_voice 100 = .ok (.aload_n 0, 1) := by decide +kernel
theorem dX11_voice_101 : decode cX11_voice 101 = .ok (.aload_n 0, 1) := by decide +kernel
theorem dX11_voice_102 : decode cX11_voice 102 = .ok (.getfield 364, 3) := by decide +kernel
theorem dX11_voice_105 : decode cX11_voice 105 = .ok (.iload_n 3, 1) := by decide +kernel
theorem dX11_voice_106 : decode cX11_voice 106 = .ok (.invokevirtual 361, 3) := by decide +kernel
theorem dX11_voice_109 : decode cX11_voice 109 = .ok (.ireturn, 1) := by decide +kernel
theorem dX11_voice_110 : decode cX11_voice 110 = .ok (.aload_n 0, 1) := by decide +kernel
theorem dX11_voice_111 : decode cX11_voice 111 = .ok (.aload_n 0, 1) := by decide +kernel
theorem dX11_voice_112 : decode cX11_voice 112 = .ok (.getfield 364, 3) := by decide +kernel
theorem dX11_voice_115 : decode cX11_voice 115 = .ok (.iload_n 3, 1) := by decide +kernel
theorem dX11_voice_116 : decode cX11_voice 116 = .ok (.invokevirtual 370, 3) := by decide +kernel
theorem dX11_voice_119 : decode cX11_voice 119 = .ok (.ireturn, 1) := by decide +kernel
theorem dX11_trace_0 : decode cX11_trace 0 = .ok (.iload_n 1, 1) := by decide +kernel
theorem dX11_trace_1 : decode cX11_trace 1 = .ok (.iconst 0, 1) := by decide +kernel
theorem dX11_trace_2 : decode cX11_trace 2 = .ok (.aload_n 0, 1) := by decide +kernel
theorem dX11_trace_3 : decode cX11_trace 3 = .ok (.getfield 346, 3) := by decide +kernel
theorem dX11_trace_6 : decode cX11_trace 6 = .ok (.iconst 1, 1) := by decide +kernel
theorem dX11_trace_7 : decode cX11_trace 7 = .ok (.isub, 1) := by decide +kernel
theorem dX11_trace_8 : decode cX11_trace 8 = .ok (.invokestatic 71, 3) := by decide +kernel
theorem dX11_trace_11 : decode cX11_trace 11 = .ok (.ifCond .eq 12, 3) := by decide +kernel
theorem dX11_trace_14 : decode cX11_trace 14 = .ok (.aload_n 0, 1) := by decide +kernel
theorem dX11_trace_15 : decode cX11_trace 15 = .ok (.getfield 63, 3) := by decide +kernel
theorem dX11_trace_18 : decode cX11_trace 18 = .ok (.iload_n 1, 1) := by decide +kernel
theorem dX11_trace_19 : decode cX11_trace 19 = .ok (.iaload, 1) := by decide +kernel
theorem dX11_trace_20 : decode cX11_trace 20 = .ok (.goto 9, 3) := by decide +kernel
theorem dX11_trace_23 : decode cX11_trace 23 = .ok (.aload_n 0, 1) := by decide +kernel
theorem dX11_trace_24 : decode cX11_trace 24 = .ok (.ldc 195, 2) := by decide +kernel
theorem dX11_trace_26 : decode cX11_trace 26 = .ok (.invokevirtual 79, 3) := by decide +kernel
theorem dX11_trace_29 : decode cX11_trace 29 = .ok (.ireturn, 1) := by decide +kernel
theorem dX11_narrow_0 : decode cX11_narrow 0 = .ok (.iload_n 0, 1) := by decide +kernel
theorem dX11_narrow_1 : decode cX11_narrow 1 = .ok (.bipush 8, 2) := by decide +kernel
theorem dX11_narrow_3 : decode cX11_narrow 3 = .ok (.if_icmp .ne 8, 3) := by decide +kernel
theorem dX11_narrow_6 : decode cX11_narrow 6 = .ok (.iload_n 1, 1) := by decide +kernel
theorem dX11_narrow_7 : decode cX11_narrow 7 = .ok (.i2b, 1) := by decide +kernel
theorem dX11_narrow_8 : decode cX11_narrow 8 = .ok (.goto 15, 3) := by decide +kernel
theorem dX11_narrow_11 : decode cX11_narrow 11 = .ok (.iload_n 0, 1) := by decide +kernel
theorem dX11_narrow_12 : decode cX11_narrow 12 = .ok (.bipush 16, 2) := by decide +kernel
theorem dX11_narrow_14 : decode cX11_narrow 14 = .ok (.if_icmp .ne 8, 3) := by decide +kernel
theorem dX11_narrow_17 : decode cX11_narrow 17 = .ok (.iload_n 1, 1) := by decide +kernel
theorem dX11_narrow_18 : decode cX11_narrow 18 = .ok (.i2s, 1) := by decide +kernel
theorem dX11_narrow_19 : decode cX11_narrow 19 = .ok (.goto 4, 3) := by decide +kernel
theorem dX11_narrow_22 : decode cX11_narrow 22 = .ok (.iload_n 1, 1) := by decide +kernel
theorem dX11_narrow_23 : decode cX11_narrow 23 = .ok (.ireturn, 1) := by decide +kernel
theorem dX11_sheet_0 : decode cX11_sheet 0 = .ok (.iload_n 1, 1) := by decide +kernel
theorem dX11_sheet_1 : decode cX11_sheet 1 = .ok (.invokestatic 333, 3) := by decide +kernel
theorem dX11_sheet_4 : decode cX11_sheet 4 = .ok (.ifCond .eq 25, 3) := by decide +kernel
theorem dX11_sheet_7 : decode cX11_sheet 7 = .ok (.iload_n 2, 1) := by decide +kernel
theorem dX11_sheet_8 : decode cX11_sheet 8 = .ok (.ifCond .eq 28, 3) := by decide +kernel
theorem dX11_sheet_11 : decode cX11_sheet 11 = .ok (.iload_n 2, 1) := by decide +kernel
theorem dX11_sheet_12 : decode cX11_sheet 12 = .ok (.bipush 8, 2) := by decide +kernel
theorem dX11_sheet_14 : decode cX11_sheet 14 = .ok (.if_icmp .eq 22, 3) := by decide +kernel
theorem dX11_sheet_17 : decode cX11_sheet 17 = .ok (.iload_n 2, 1) := by decide +kernel
theorem dX11_sheet_18 : decode cX11_sheet 18 = .ok (.bipush 16, 2) := by decide +kernel
theorem dX11_sheet_20 : decode cX11_sheet 20 = .ok (.if_icmp .eq 16, 3) := by decide +kernel
theorem dX11_sheet_23 : decode cX11_sheet 23 = .ok (.iload_n 2, 1) := by decide +kernel
theorem dX11_sheet_24 : decode cX11_sheet 24 = .ok (.bipush 32, 2) := by decide +kernel
theorem dX11_sheet_26 : decode cX11_sheet 26 = .ok (.if_icmp .eq 10, 3) := by decide +kernel
theorem dX11_sheet_29 : decode cX11_sheet 29 = .ok (.aload_n 0, 1) := by decide +kernel
theorem dX11_sheet_30 : decode cX11_sheet 30 = .ok (.ldc 78, 2) := by decide +kernel
theorem dX11_sheet_32 : decode cX11_sheet 32 = .ok (.invokevirtual 79, 3) := by decide +kernel
theorem dX11_sheet_35 : decode cX11_sheet 35 = .ok (.ireturn, 1) := by decide +kernel
theorem dX11_sheet_36 : decode cX11_sheet 36 = .ok (.iload_n 2, 1) := by decide +kernel
theorem dX11_sheet_37 : decode cX11_sheet 37 = .ok (.ifCond .eq 14, 3) := by decide +kernel
theorem dX11_sheet_40 : decode cX11_sheet 40 = .ok (.iload_n 3, 1) := by decide +kernel
theorem dX11_sheet_41 : decode cX11_sheet 41 = .ok (.ifCond .ge 10, 3) := by decide +kernel
theorem dX11_sheet_44 : decode cX11_sheet 44 = .ok (.aload_n 0, 1) := by decide +kernel
theorem dX11_sheet_45 : decode cX11_sheet 45 = .ok (.ldc 128, 2) := by decide +kernel
theorem dX11_sheet_47 : decode cX11_sheet 47 = .ok (.invokevirtual 79, 3) := by decide +kernel
theorem dX11_sheet_50 : decode cX11_sheet 50 = .ok (.ireturn, 1) := by decide +kernel
theorem dX11_sheet_51 : decode cX11_sheet 51 = .ok (.iload_n 2, 1) := by decide +kernel
theorem dX11_sheet_52 : decode cX11_sheet 52 = .ok (.ifCond .eq 16, 3) := by decide +kernel
theorem dX11_sheet_55 : decode cX11_sheet 55 = .ok (.iload_n 3, 1) := by decide +kernel
theorem dX11_sheet_56 : decode cX11_sheet 56 = .ok (.bipush 40, 2) := by decide +kernel
theorem dX11_sheet_58 : decode cX11_sheet 58 = .ok (.if_icmp .le 10, 3) := by decide +kernel
theorem dX11_sheet_61 : decode cX11_sheet 61 = .ok (.aload_n 0, 1) := by decide +kernel
theorem dX11_sheet_62 : decode cX11_sheet 62 = .ok (.ldc 78, 2) := by decide +kernel
theorem dX11_sheet_64 : decode cX11_sheet 64 = .ok (.invokevirtual 79, 3) := by decide +kernel
theorem dX11_sheet_67 : decode cX11_sheet 67 = .ok (.ireturn, 1) := by decide +kernel
theorem dX11_sheet_68 : decode cX11_sheet 68 = .ok (.aload_n 0, 1) := by decide +kernel
theorem dX11_sheet_69 : decode cX11_sheet 69 = .ok (.getfield 48, 3) := by decide +kernel
theorem dX11_sheet_72 : decode cX11_sheet 72 = .ok (.iload_n 1, 1) := by decide +kernel
theorem dX11_sheet_73 : decode cX11_sheet 73 = .ok (.iload_n 2, 1) := by decide +kernel
theorem dX11_sheet_74 : decode cX11_sheet 74 = .ok (.iastore, 1) := by decide +kernel
theorem dX11_sheet_75 : decode cX11_sheet 75 = .ok (.aload_n 0, 1) := by decide +kernel
theorem dX11_sheet_76 : decode cX11_sheet 76 = .ok (.getfield 51, 3) := by decide +kernel
theorem dX11_sheet_79 : decode cX11_sheet 79 = .ok (.iload_n 1, 1) := by decide +kernel
theorem dX11_sheet_80 : decode cX11_sheet 80 = .ok (.iload_n 2, 1) := by decide +kernel
theorem dX11_sheet_81 : decode cX11_sheet 81 = .ok (.ifCond .ne 7, 3) := by decide +kernel
theorem dX11_sheet_84 : decode cX11_sheet 84 = .ok (.iconst 0, 1) := by decide +kernel
theorem dX11_sheet_85 : decode cX11_sheet 85 = .ok (.goto 4, 3) := by decide +kernel
theorem dX11_sheet_88 : decode cX11_sheet 88 = .ok (.iload_n 3, 1) := by decide +kernel
theorem dX11_sheet_89 : decode cX11_sheet 89 = .ok (.iastore, 1) := by decide +kernel
theorem dX11_sheet_90 : decode cX11_sheet 90 = .ok (.iconst 0, 1) := by decide +kernel
theorem dX11_sheet_91 : decode cX11_sheet 91 = .ok (.istore 4, 2) := by decide +kernel
theorem dX11_sheet_93 : decode cX11_sheet 93 = .ok (.iload 4, 2) := by decide +kernel
theorem dX11_sheet_95 : decode cX11_sheet 95 = .ok (.bipush 40, 2) := by decide +kernel
theorem dX11_sheet_97 : decode cX11_sheet 97 = .ok (.if_icmp .ge 22, 3) := by decide +kernel
theorem dX11_sheet_100 : decode cX11_sheet 100 = .ok (.aload_n 0, 1) := by decide +kernel
theorem dX11_sheet_101 : decode cX11_sheet 101 = .ok (.getfield 54, 3) := by decide +kernel
theorem dX11_sheet_104 : decode cX11_sheet 104 = .ok (.bipush 40, 2) := by decide +kernel
theorem dX11_sheet_106 : decode cX11_sheet 106 = .ok (.iload_n 1, 1) := by decide +kernel
theorem dX11_sheet_107 : decode cX11_sheet 107 = .ok (.imul, 1) := by decide +kernel
theorem dX11_sheet_108 : decode cX11_sheet 108 = .ok (.iload 4, 2) := by decide +kernel
theorem dX11_sheet_110 : decode cX11_sheet 110 = .ok (.iadd, 1) := by decide +kernel
theorem dX11_sheet_111 : decode cX11_sheet 111 = .ok (.iconst 0, 1) := by decide +kernel
theorem dX11_sheet_112 : decode cX11_sheet 112 = .ok (.iastore, 1) := by decide +kernel
theorem dX11_sheet_113 : decode cX11_sheet 113 = .ok (.iinc 4 1, 3) := by decide +kernel
theorem dX11_sheet_116 : decode cX11_sheet 116 = .ok (.goto (-23), 3) := by decide +kernel
theorem dX11_sheet_119 : decode cX11_sheet 119 = .ok (.iconst 1, 1) := by decide +kernel
theorem dX11_sheet_120 : decode cX11_sheet 120 = .ok (.ireturn, 1) := by decide +kernel
theorem dX11_put_0 : decode cX11_put 0 = .ok (.iload_n 1, 1) := by decide +kernel
theorem dX11_put_1 : decode cX11_put 1 = .ok (.invokestatic 333, 3) := by decide +kernel
theorem dX11_put_4 : decode cX11_put 4 = .ok (.ifCond .ne 10, 3) := by decide +kernel
theorem dX11_put_7 : decode cX11_put 7 = .ok (.aload_n 0, 1) := by decide +kernel
theorem dX11_put_8 : decode cX11_put 8 = .ok (.ldc 78, 2) := by decide +kernel
theorem dX11_put_10 : decode cX11_put 10 = .ok (.invokevirtual 79, 3) := by decide +kernel
theorem dX11_put_13 : decode cX11_put 13 = .ok (.ireturn, 1) := by decide +kernel
theorem dX11_put_14 : decode cX11_put 14 = .ok (.aload_n 0, 1) := by decide +kernel
theorem dX11_put_15 : decode cX11_put 15 = .ok (.getfield 48, 3) := by decide +kernel
theorem dX11_put_18 : decode cX11_put 18 = .ok (.iload_n 1, 1) := by decide +kernel
theorem dX11_put_19 : decode cX11_put 19 = .ok (.iaload, 1) := by decide +kernel
theorem dX11_put_20 : decode cX11_put 20 = .ok (.ifCond .ne 10, 3) := by decide +kernel
theorem dX11_put_23 : decode cX11_put 23 = .ok (.aload_n 0, 1) := by decide +kernel
theorem dX11_put_24 : decode cX11_put 24 = .ok (.ldc 195, 2) := by decide +kernel
theorem dX11_put_26 : decode cX11_put 26 = .ok (.invokevirtual 79, 3) := by decide +kernel
theorem dX11_put_29 : decode cX11_put 29 = .ok (.ireturn, 1) := by decide +kernel
theorem dX11_put_30 : decode cX11_put 30 = .ok (.iload_n 2, 1) := by decide +kernel
theorem dX11_put_31 : decode cX11_put 31 = .ok (.iconst 0, 1) := by decide +kernel
theorem dX11_put_32 : decode cX11_put 32 = .ok (.aload_n 0, 1) := by decide +kernel
theorem dX11_put_33 : decode cX11_put 33 = .ok (.getfield 51, 3) := by decide +kernel
theorem dX11_put_36 : decode cX11_put 36 = .ok (.iload_n 1, 1) := by decide +kernel
theorem dX11_put_37 : decode cX11_put 37 = .ok (.iaload, 1) := by decide +kernel
theorem dX11_put_38 : decode cX11_put 38 = .ok (.iconst 1, 1) := by decide +kernel
theorem dX11_put_39 : decode cX11_put 39 = .ok (.isub, 1) := by decide +kernel
theorem dX11_put_40 : decode cX11_put 40 = .ok (.invokestatic 71, 3) := by decide +kernel
theorem dX11_put_43 : decode cX11_put 43 = .ok (.ifCond .ne 10, 3) := by decide +kernel
theorem dX11_put_46 : decode cX11_put 46 = .ok (.aload_n 0, 1) := by decide +kernel
theorem dX11_put_47 : decode cX11_put 47 = .ok (.ldc 78, 2) := by decide +kernel
theorem dX11_put_49 : decode cX11_put 49 = .ok (.invokevirtual 79, 3) := by decide +kernel
theorem dX11_put_52 : decode cX11_put 52 = .ok (.ireturn, 1) := by decide +kernel
theorem dX11_put_53 : decode cX11_put 53 = .ok (.aload_n 0, 1) := by decide +kernel
theorem dX11_put_54 : decode cX11_put 54 = .ok (.getfield 54, 3) := by decide +kernel
theorem dX11_put_57 : decode cX11_put 57 = .ok (.bipush 40, 2) := by decide +kernel
theorem dX11_put_59 : decode cX11_put 59 = .ok (.iload_n 1, 1) := by decide +kernel
theorem dX11_put_60 : decode cX11_put 60 = .ok (.imul, 1) := by decide +kernel
theorem dX11_put_61 : decode cX11_put 61 = .ok (.iload_n 2, 1) := by decide +kernel
theorem dX11_put_62 : decode cX11_put 62 = .ok (.iadd, 1) := by decide +kernel
theorem dX11_put_63 : decode cX11_put 63 = .ok (.aload_n 0, 1) := by decide +kernel
theorem dX11_put_64 : decode cX11_put 64 = .ok (.getfield 48, 3) := by decide +kernel
theorem dX11_put_67 : decode cX11_put 67 = .ok (.iload_n 1, 1) := by decide +kernel
theorem dX11_put_68 : decode cX11_put 68 = .ok (.iaload, 1) := by decide +kernel
theorem dX11_put_69 : decode cX11_put 69 = .ok (.iload_n 3, 1) := by decide +kernel
theorem dX11_put_70 : decode cX11_put 70 = .ok (.invokestatic 373, 3) := by decide +kernel
theorem dX11_put_73 : decode cX11_put 73 = .ok (.iastore, 1) := by decide +kernel
theorem dX11_put_74 : decode cX11_put 74 = .ok (.iconst 1, 1) := by decide +kernel
theorem dX11_put_75 : decode cX11_put 75 = .ok (.ireturn, 1) := by decide +kernel
theorem dX11_move_0 : decode cX11_move 0 = .ok (.iload_n 1, 1) := by decide +kernel
theorem dX11_move_1 : decode cX11_move 1 = .ok (.invokestatic 333, 3) := by decide +kernel
theorem dX11_move_4 : decode cX11_move 4 = .ok (.ifCond .eq 10, 3) := by decide +kernel
theorem dX11_move_7 : decode cX11_move 7 = .ok (.iload_n 3, 1) := by decide +kernel
theorem dX11_move_8 : decode cX11_move 8 = .ok (.invokestatic 333, 3) := by decide +kernel
theorem dX11_move_11 : decode cX11_move 11 = .ok (.ifCond .ne 10, 3) := by decide +kernel
theorem dX11_move_14 : decode cX11_move 14 = .ok (.aload_n 0, 1) := by decide +kernel
theorem dX11_move_15 : decode cX11_move 15 = .ok (.ldc 78, 2) := by decide +kernel
theorem dX11_move_17 : decode cX11_move 17 = .ok (.invokevirtual 79, 3) := by decide +kernel
theorem dX11_move_20 : decode cX11_move 20 = .ok (.ireturn, 1) := by decide +kernel
theorem dX11_move_21 : decode cX11_move 21 = .ok (.aload_n 0, 1) := by decide +kernel
theorem dX11_move_22 : decode cX11_move 22 = .ok (.getfield 48, 3) := by decide +kernel
theorem dX11_move_25 : decode cX11_move 25 = .ok (.iload_n 1, 1) := by decide +kernel
theorem dX11_move_26 : decode cX11_move 26 = .ok (.iaload, 1) := by decide +kernel
theorem dX11_move_27 : decode cX11_move 27 = .ok (.ifCond .eq 12, 3) := by decide +kernel
theorem dX11_move_30 : decode cX11_move 30 = .ok (.aload_n 0, 1) := by decide +kernel
theorem dX11_move_31 : decode cX11_move 31 = .ok (.getfield 48, 3) := by decide +kernel
theorem dX11_move_34 : decode cX11_move 34 = .ok (.iload_n 3, 1) := by decide +kernel
theorem dX11_move_35 : decode cX11_move 35 = .ok (.iaload, 1) := by decide +kernel
theorem dX11_move_36 : decode cX11_move 36 = .ok (.ifCond .ne 10, 3) := by decide +kernel
theorem dX11_move_39 : decode cX11_move 39 = .ok (.aload_n 0, 1) := by decide +kernel
theorem dX11_move_40 : decode cX11_move 40 = .ok (.ldc 195, 2) := by decide +kernel
theorem dX11_move_42 : decode cX11_move 42 = .ok (.invokevirtual 79, 3) := by decide +kernel
theorem dX11_move_45 : decode cX11_move 45 = .ok (.ireturn, 1) := by decide +kernel
theorem dX11_move_46 : decode cX11_move 46 = .ok (.aload_n 0, 1) := by decide +kernel
theorem dX11_move_47 : decode cX11_move 47 = .ok (.getfield 48, 3) := by decide +kernel
theorem dX11_move_50 : decode cX11_move 50 = .ok (.iload_n 1, 1) := by decide +kernel
theorem dX11_move_51 : decode cX11_move 51 = .ok (.iaload, 1) := by decide +kernel
theorem dX11_move_52 : decode cX11_move 52 = .ok (.aload_n 0, 1) := by decide +kernel
theorem dX11_move_53 : decode cX11_move 53 = .ok (.getfield 48, 3) := by decide +kernel
theorem dX11_move_56 : decode cX11_move 56 = .ok (.iload_n 3, 1) := by decide +kernel
theorem dX11_move_57 : decode cX11_move 57 = .ok (.iaload, 1) := by decide +kernel
theorem dX11_move_58 : decode cX11_move 58 = .ok (.if_icmp .eq 10, 3) := by decide +kernel
theorem dX11_move_61 : decode cX11_move 61 = .ok (.aload_n 0, 1) := by decide +kernel
theorem dX11_move_62 : decode cX11_move 62 = .ok (.ldc 114, 2) := by decide +kernel
theorem dX11_move_64 : decode cX11_move 64 = .ok (.invokevirtual 79, 3) := by decide +kernel
theorem dX11_move_67 : decode cX11_move 67 = .ok (.ireturn, 1) := by decide +kernel
theorem dX11_move_68 : decode cX11_move 68 = .ok (.iload 5, 2) := by decide +kernel
theorem dX11_move_70 : decode cX11_move 70 = .ok (.ifCond .lt 39, 3) := by decide +kernel
theorem dX11_move_73 : decode cX11_move 73 = .ok (.iload_n 2, 1) := by decide +kernel
theorem dX11_move_74 : decode cX11_move 74 = .ok (.ifCond .lt 35, 3) := by decide +kernel
theorem dX11_move_77 : decode cX11_move 77 = .ok (.iload 4, 2) := by decide +kernel
theorem dX11_move_79 : decode cX11_move 79 = .ok (.ifCond .lt 30, 3) := by decide +kernel
theorem dX11_move_82 : decode cX11_move 82 = .ok (.iload_n 2, 1) := by decide +kernel
theorem dX11_move_83 : decode cX11_move 83 = .ok (.aload_n 0, 1) := by decide +kernel
theorem dX11_move_84 : decode cX11_move 84 = .ok (.getfield 51, 3) := by decide +kernel
theorem dX11_move_87 : decode cX11_move 87 = .ok (.iload_n 1, 1) := by decide +kernel
theorem dX11_move_88 : decode cX11_move 88 = .ok (.iaload, 1) := by decide +kernel
theorem dX11_move_89 : decode cX11_move 89 = .ok (.iload 5, 2) := by decide +kernel
theorem dX11_move_91 : decode cX11_move 91 = .ok (.isub, 1) := by decide +kernel
theorem dX11_move_92 : decode cX11_move 92 = .ok (.if_icmp .gt 17, 3) := by decide +kernel
theorem dX11_move_95 : decode cX11_move 95 = .ok (.iload 4, 2) := by decide +kernel
theorem dX11_move_97 : decode cX11_move 97 = .ok (.aload_n 0, 1) := by decide +kernel
theorem dX11_move_98 : decode cX11_move 98 = .ok (.getfield 51, 3) := by decide +kernel
theorem dX11_move_101 : decode cX11_move 101 = .ok (.iload_n 3, 1) := by decide +kernel
theorem dX11_move_102 : decode cX11_move 102 = .ok (.iaload, 1) := by decide +kernel
theorem dX11_move_103 : decode cX11_move 103 = .ok (.iload 5, 2) := by decide +kernel
theorem dX11_move_105 : decode cX11_move 105 = .ok (.isub, 1) := by decide +kernel
theorem dX11_move_106 : decode cX11_move 106 = .ok (.if_icmp .le 10, 3) := by decide +kernel
theorem dX11_move_109 : decode cX11_move 109 = .ok (.aload_n 0, 1) := by decide +kernel
theorem dX11_move_110 : decode cX11_move 110 = .ok (.ldc 78, 2) := by decide +kernel
theorem dX11_move_112 : decode cX11_move 112 = .ok (.invokevirtual 79, 3) := by decide +kernel
theorem dX11_move_115 : decode cX11_move 115 = .ok (.ireturn, 1) := by decide +kernel
theorem dX11_move_116 : decode cX11_move 116 = .ok (.iconst 0, 1) := by decide +kernel
theorem dX11_move_117 : decode cX11_move 117 = .ok (.istore 6, 2) := by decide +kernel
theorem dX11_move_119 : decode cX11_move 119 = .ok (.iload 6, 2) := by decide +kernel
theorem dX11_move_121 : decode cX11_move 121 = .ok (.iload 5, 2) := by decide +kernel
theorem dX11_move_123 : decode cX11_move 123 = .ok (.if_icmp .ge 30, 3) := by decide +kernel
theorem dX11_move_126 : decode cX11_move 126 = .ok (.aload_n 0, 1) := by decide +kernel
theorem dX11_move_127 : decode cX11_move 127 = .ok (.getfield 57, 3) := by decide +kernel
theorem dX11_move_130 : decode cX11_move 130 = .ok (.iload 6, 2) := by decide +kernel
theorem dX11_move_132 : decode cX11_move 132 = .ok (.aload_n 0, 1) := by decide +kernel
theorem dX11_move_133 : decode cX11_move 133 = .ok (.getfield 54, 3) := by decide +kernel
theorem dX11_move_136 : decode cX11_move 136 = .ok (.bipush 40, 2) := by decide +kernel
theorem dX11_move_138 : decode cX11_move 138 = .ok (.iload_n 1, 1) := by decide +kernel
theorem dX11_move_139 : decode cX11_move 139 = .ok (.imul, 1) := by decide +kernel
theorem dX11_move_140 : decode cX11_move 140 = .ok (.iload_n 2, 1) := by decide +kernel
theorem dX11_move_141 : decode cX11_move 141 = .ok (.iadd, 1) := by decide +kernel
theorem dX11_move_142 : decode cX11_move 142 = .ok (.iload 6, 2) := by decide +kernel
theorem dX11_move_144 : decode cX11_move 144 = .ok (.iadd, 1) := by decide +kernel
theorem dX11_move_145 : decode cX11_move 145 = .ok (.iaload, 1) := by decide +kernel
theorem dX11_move_146 : decode cX11_move 146 = .ok (.iastore, 1) := by decide +kernel
theorem dX11_move_147 : decode cX11_move 147 = .ok (.iinc 6 1, 3) := by decide +kernel
theorem dX11_move_150 : decode cX11_move 150 = .ok (.goto (-31), 3) := by decide +kernel
theorem dX11_move_153 : decode cX11_move 153 = .ok (.iconst 0, 1) := by decide +kernel
theorem dX11_move_154 : decode cX11_move 154 = .ok (.istore 6, 2) := by decide +kernel
theorem dX11_move_156 : decode cX11_move 156 = .ok (.iload 6, 2) := by decide +kernel
theorem dX11_move_158 : decode cX11_move 158 = .ok (.iload 5, 2) := by decide +kernel
theorem dX11_move_160 : decode cX11_move 160 = .ok (.if_icmp .ge 31, 3) := by decide +kernel
theorem dX11_move_163 : decode cX11_move 163 = .ok (.aload_n 0, 1) := by decide +kernel
theorem dX11_move_164 : decode cX11_move 164 = .ok (.getfield 54, 3) := by decide +kernel
theorem dX11_move_167 : decode cX11_move 167 = .ok (.bipush 40, 2) := by decide +kernel
theorem dX11_move_169 : decode cX11_move 169 = .ok (.iload_n 3, 1) := by decide +kernel
theorem dX11_move_170 : decode cX11_move 170 = .ok (.imul, 1) := by decide +kernel
theorem dX11_move_171 : decode cX11_move 171 = .ok (.iload 4, 2) := by decide +kernel
theorem dX11_move_173 : decode cX11_move 173 = .ok (.iadd, 1) := by decide +kernel
theorem dX11_move_174 : decode cX11_move 174 = .ok (.iload 6, 2) := by decide +kernel
theorem dX11_move_176 : decode cX11_move 176 = .ok (.iadd, 1) := by decide +kernel
theorem dX11_move_177 : decode cX11_move 177 = .ok (.aload_n 0, 1) := by decide +kernel
theorem dX11_move_178 : decode cX11_move 178 = .ok (.getfield 57, 3) := by decide +kernel
theorem dX11_move_181 : decode cX11_move 181 = .ok (.iload 6, 2) := by decide +kernel
theorem dX11_move_183 : decode cX11_move 183 = .ok (.iaload, 1) := by decide +kernel
theorem dX11_move_184 : decode cX11_move 184 = .ok (.iastore, 1) := by decide +kernel
theorem dX11_move_185 : decode cX11_move 185 = .ok (.iinc 6 1, 3) := by decide +kernel
theorem dX11_move_188 : decode cX11_move 188 = .ok (.goto (-32), 3) := by decide +kernel
theorem dX11_move_191 : decode cX11_move 191 = .ok (.iload 5, 2) := by decide +kernel
theorem dX11_move_193 : decode cX11_move 193 = .ok (.ireturn, 1) := by decide +kernel
theorem dX11_lets_0 : decode cX11_lets 0 = .ok (.iload_n 1, 1) := by decide +kernel
theorem dX11_lets_1 : decode cX11_lets 1 = .ok (.invokestatic 333, 3) := by decide +kernel
theorem dX11_lets_4 : decode cX11_lets 4 = .ok (.ifCond .ne 10, 3) := by decide +kernel
theorem dX11_lets_7 : decode cX11_lets 7 = .ok (.aload_n 0, 1) := by decide +kernel
theorem dX11_lets_8 : decode cX11_lets 8 = .ok (.ldc 78, 2) := by decide +kernel
theorem dX11_lets_10 : decode cX11_lets 10 = .ok (.invokevirtual 79, 3) := by decide +kernel
theorem dX11_lets_13 : decode cX11_lets 13 = .ok (.ireturn, 1) := by decide +kernel
theorem dX11_lets_14 : decode cX11_lets 14 = .ok (.aload_n 0, 1) := by decide +kernel
theorem dX11_lets_15 : decode cX11_lets 15 = .ok (.getfield 48, 3) := by decide +kernel
theorem dX11_lets_18 : decode cX11_lets 18 = .ok (.iload_n 1, 1) := by decide +kernel
theorem dX11_lets_19 : decode cX11_lets 19 = .ok (.iaload, 1) := by decide +kernel
theorem dX11_lets_20 : decode cX11_lets 20 = .ok (.ifCond .ne 10, 3) := by decide +kernel
theorem dX11_lets_23 : decode cX11_lets 23 = .ok (.aload_n 0, 1) := by decide +kernel
theorem dX11_lets_24 : decode cX11_lets 24 = .ok (.ldc 195, 2) := by decide +kernel
theorem dX11_lets_26 : decode cX11_lets 26 = .ok (.invokevirtual 79, 3) := by decide +kernel
theorem dX11_lets_29 : decode cX11_lets 29 = .ok (.ireturn, 1) := by decide +kernel
theorem dX11_lets_30 : decode cX11_lets 30 = .ok (.iconst 0, 1) := by decide +kernel
theorem dX11_lets_31 : decode cX11_lets 31 = .ok (.istore_n 2, 1) := by decide +kernel
theorem dX11_lets_32 : decode cX11_lets 32 = .ok (.iload_n 2, 1) := by decide +kernel
theorem dX11_lets_33 : decode cX11_lets 33 = .ok (.aload_n 0, 1) := by decide +kernel
theorem dX11_lets_34 : decode cX11_lets 34 = .ok (.getfield 51, 3) := by decide +kernel
theorem dX11_lets_37 : decode cX11_lets 37 = .ok (.iload_n 1, 1) := by decide +kernel
theorem dX11_lets_38 : decode cX11_lets 38 = .ok (.iaload, 1) := by decide +kernel
theorem dX11_lets_39 : decode cX11_lets 39 = .ok (.if_icmp .ge 52, 3) := by decide +kernel
theorem dX11_lets_42 : decode cX11_lets 42 = .ok (.aload_n 0, 1) := by decide +kernel
theorem dX11_lets_43 : decode cX11_lets 43 = .ok (.aload_n 0, 1) := by decide +kernel
theorem dX11_lets_44 : decode cX11_lets 44 = .ok (.getfield 54, 3) := by decide +kernel
theorem dX11_lets_47 : decode cX11_lets 47 = .ok (.bipush 40, 2) := by decide +kernel
theorem dX11_lets_49 : decode cX11_lets 49 = .ok (.iload_n 1, 1) := by decide +kernel
theorem dX11_lets_50 : decode cX11_lets 50 = .ok (.imul, 1) := by decide +kernel
theorem dX11_lets_51 : decode cX11_lets 51 = .ok (.iload_n 2, 1) := by decide +kernel
theorem dX11_lets_52 : decode cX11_lets 52 = .ok (.iadd, 1) := by decide +kernel
theorem dX11_lets_53 : decode cX11_lets 53 = .ok (.iaload, 1) := by decide +kernel
theorem dX11_lets_54 : decode cX11_lets 54 = .ok (.invokevirtual 182, 3) := by decide +kernel
theorem dX11_lets_57 : decode cX11_lets 57 = .ok (.ifCond .eq 34, 3) := by decide +kernel
theorem dX11_lets_60 : decode cX11_lets 60 = .ok (.aload_n 0, 1) := by decide +kernel
theorem dX11_lets_61 : decode cX11_lets 61 = .ok (.aload_n 0, 1) := by decide +kernel
theorem dX11_lets_62 : decode cX11_lets 62 = .ok (.getfield 54, 3) := by decide +kernel
theorem dX11_lets_65 : decode cX11_lets 65 = .ok (.bipush 40, 2) := by decide +kernel
theorem dX11_lets_67 : decode cX11_lets 67 = .ok (.iload_n 1, 1) := by decide +kernel
theorem dX11_lets_68 : decode cX11_lets 68 = .ok (.imul, 1) := by decide +kernel
theorem dX11_lets_69 : decode cX11_lets 69 = .ok (.iload_n 2, 1) := by decide +kernel
theorem dX11_lets_70 : decode cX11_lets 70 = .ok (.iadd, 1) := by decide +kernel
theorem dX11_lets_71 : decode cX11_lets 71 = .ok (.iaload, 1) := by decide +kernel
theorem dX11_lets_72 : decode cX11_lets 72 = .ok (.invokevirtual 185, 3) := by decide +kernel
theorem dX11_lets_75 : decode cX11_lets 75 = .ok (.istore_n 3, 1) := by decide +kernel
theorem dX11_lets_76 : decode cX11_lets 76 = .ok (.iload_n 2, 1) := by decide +kernel
theorem dX11_lets_77 : decode cX11_lets 77 = .ok (.iload_n 3, 1) := by decide +kernel
theorem dX11_lets_78 : decode cX11_lets 78 = .ok (.ifCond .ge 7, 3) := by decide +kernel
theorem dX11_lets_81 : decode cX11_lets 81 = .ok (.iconst 0, 1) := by decide +kernel
theorem dX11_lets_82 : decode cX11_lets 82 = .ok (.goto 4, 3) := by decide +kernel
theorem dX11_lets_85 : decode cX11_lets 85 = .ok (.iconst 1, 1) := by decide +kernel
theorem dX11_lets_86 : decode cX11_lets 86 = .ok (.iadd, 1) := by decide +kernel
theorem dX11_lets_87 : decode cX11_lets 87 = .ok (.istore_n 2, 1) := by decide +kernel
theorem dX11_lets_88 : decode cX11_lets 88 = .ok (.goto (-56), 3) := by decide +kernel
theorem dX11_lets_91 : decode cX11_lets 91 = .ok (.iload_n 2, 1) := by decide +kernel
theorem dX11_lets_92 : decode cX11_lets 92 = .ok (.ireturn, 1) := by decide +kernel
theorem dX11_judge_0 : decode cX11_judge 0 = .ok (.iload_n 1, 1) := by decide +kernel
theorem dX11_judge_1 : decode cX11_judge 1 = .ok (.invokestatic 333, 3) := by decide +kernel
theorem dX11_judge_4 : decode cX11_judge 4 = .ok (.ifCond .ne 10, 3) := by decide +kernel
theorem dX11_judge_7 : decode cX11_judge 7 = .ok (.aload_n 0, 1) := by decide +kernel
theorem dX11_judge_8 : decode cX11_judge 8 = .ok (.ldc 78, 2) := by decide +kernel
theorem dX11_judge_10 : decode cX11_judge 10 = .ok (.invokevirtual 79, 3) := by decide +kernel
theorem dX11_judge_13 : decode cX11_judge 13 = .ok (.ireturn, 1) := by decide +kernel
theorem dX11_judge_14 : decode cX11_judge 14 = .ok (.aload_n 0, 1) := by decide +kernel
theorem dX11_judge_15 : decode cX11_judge 15 = .ok (.getfield 48, 3) := by decide +kernel
theorem dX11_judge_18 : decode cX11_judge 18 = .ok (.iload_n 1, 1) := by decide +kernel
theorem dX11_judge_19 : decode cX11_judge 19 = .ok (.iaload, 1) := by decide +kernel
theorem dX11_judge_20 : decode cX11_judge 20 = .ok (.ifCond .ne 10, 3) := by decide +kernel
theorem dX11_judge_23 : decode cX11_judge 23 = .ok (.aload_n 0, 1) := by decide +kernel
theorem dX11_judge_24 : decode cX11_judge 24 = .ok (.ldc 195, 2) := by decide +kernel
theorem dX11_judge_26 : decode cX11_judge 26 = .ok (.invokevirtual 79, 3) := by decide +kernel
theorem dX11_judge_29 : decode cX11_judge 29 = .ok (.ireturn, 1) := by decide +kernel
theorem dX11_judge_30 : decode cX11_judge 30 = .ok (.iconst 0, 1) := by decide +kernel
theorem dX11_judge_31 : decode cX11_judge 31 = .ok (.istore_n 2, 1) := by decide +kernel
theorem dX11_judge_32 : decode cX11_judge 32 = .ok (.iload_n 2, 1) := by decide +kernel
theorem dX11_judge_33 : decode cX11_judge 33 = .ok (.aload_n 0, 1) := by decide +kernel
theorem dX11_judge_34 : decode cX11_judge 34 = .ok (.getfield 51, 3) := by decide +kernel
theorem dX11_judge_37 : decode cX11_judge 37 = .ok (.iload_n 1, 1) := by decide +kernel
theorem dX11_judge_38 : decode cX11_judge 38 = .ok (.iaload, 1) := by decide +kernel
theorem dX11_judge_39 : decode cX11_judge 39 = .ok (.if_icmp .ge 37, 3) := by decide +kernel
theorem dX11_judge_42 : decode cX11_judge 42 = .ok (.iload_n 2, 1) := by decide +kernel
theorem dX11_judge_43 : decode cX11_judge 43 = .ok (.aload_n 0, 1) := by decide +kernel
theorem dX11_judge_44 : decode cX11_judge 44 = .ok (.invokevirtual 67, 3) := by decide +kernel
theorem dX11_judge_47 : decode cX11_judge 47 = .ok (.if_icmp .ge 29, 3) := by decide +kernel
theorem dX11_judge_50 : decode cX11_judge 50 = .ok (.aload_n 0, 1) := by decide +kernel
theorem dX11_judge_51 : decode cX11_judge 51 = .ok (.getfield 54, 3) := by decide +kernel
theorem dX11_judge_54 : decode cX11_judge 54 = .ok (.bipush 40, 2) := by decide +kernel
theorem dX11_judge_56 : decode cX11_judge 56 = .ok (.iload_n 1, 1) := by decide +kernel
theorem dX11_judge_57 : decode cX11_judge 57 = .ok (.imul, 1) := by decide +kernel
theorem dX11_judge_58 : decode cX11_judge 58 = .ok (.iload_n 2, 1) := by decide +kernel
theorem dX11_judge_59 : decode cX11_judge 59 = .ok (.iadd, 1) := by decide +kernel
theorem dX11_judge_60 : decode cX11_judge 60 = .ok (.iaload, 1) := by decide +kernel
theorem dX11_judge_61 : decode cX11_judge 61 = .ok (.aload_n 0, 1) := by decide +kernel
theorem dX11_judge_62 : decode cX11_judge 62 = .ok (.iload_n 2, 1) := by decide +kernel
theorem dX11_judge_63 : decode cX11_judge 63 = .ok (.iconst 2, 1) := by decide +kernel
theorem dX11_judge_64 : decode cX11_judge 64 = .ok (.invokevirtual 87, 3) := by decide +kernel
theorem dX11_judge_67 : decode cX11_judge 67 = .ok (.if_icmp .ne 9, 3) := by decide +kernel
theorem dX11_judge_70 : decode cX11_judge 70 = .ok (.iinc 2 1, 3) := by decide +kernel
theorem dX11_judge_73 : decode cX11_judge 73 = .ok (.goto (-41), 3) := by decide +kernel
theorem dX11_judge_76 : decode cX11_judge 76 = .ok (.iload_n 2, 1) := by decide +kernel
theorem dX11_judge_77 : decode cX11_judge 77 = .ok (.aload_n 0, 1) := by decide +kernel
theorem dX11_judge_78 : decode cX11_judge 78 = .ok (.getfield 51, 3) := by decide +kernel
theorem dX11_judge_81 : decode cX11_judge 81 = .ok (.iload_n 1, 1) := by decide +kernel
theorem dX11_judge_82 : decode cX11_judge 82 = .ok (.iaload, 1) := by decide +kernel
theorem dX11_judge_83 : decode cX11_judge 83 = .ok (.if_icmp .ne 15, 3) := by decide +kernel
theorem dX11_judge_86 : decode cX11_judge 86 = .ok (.iload_n 2, 1) := by decide +kernel
theorem dX11_judge_87 : decode cX11_judge 87 = .ok (.aload_n 0, 1) := by decide +kernel
theorem dX11_judge_88 : decode cX11_judge 88 = .ok (.invokevirtual 67, 3) := by decide +kernel
theorem dX11_judge_91 : decode cX11_judge 91 = .ok (.if_icmp .ne 7, 3) := by decide +kernel
theorem dX11_judge_94 : decode cX11_judge 94 = .ok (.iconst (-1), 1) := by decide +kernel
theorem dX11_judge_95 : decode cX11_judge 95 = .ok (.goto 4, 3) := by decide +kernel
theorem dX11_judge_98 : decode cX11_judge 98 = .ok (.iload_n 2, 1) := by decide +kernel
theorem dX11_judge_99 : decode cX11_judge 99 = .ok (.ireturn, 1) := by decide +kernel
theorem dX11_image_0 : decode cX11_image 0 = .ok (.aload_n 0, 1) := by decide +kernel
theorem dX11_image_1 : decode cX11_image 1 = .ok (.aload_n 0, 1) := by decide +kernel
theorem dX11_image_2 : decode cX11_image 2 = .ok (.getfield 7, 3) := by decide +kernel
theorem dX11_image_5 : decode cX11_image 5 = .ok (.aload_n 0, 1) := by decide +kernel
theorem dX11_image_6 : decode cX11_image 6 = .ok (.getfield 13, 3) := by decide +kernel
theorem dX11_image_9 : decode cX11_image 9 = .ok (.invokevirtual 188, 3) := by decide +kernel
theorem dX11_image_12 : decode cX11_image 12 = .ok (.aload_n 0, 1) := by decide +kernel
theorem dX11_image_13 : decode cX11_image 13 = .ok (.iconst 1, 1) := by decide +kernel
theorem dX11_image_14 : decode cX11_image 14 = .ok (.putfield 277, 3) := by decide +kernel
theorem dX11_image_17 : decode cX11_image 17 = .ok (.aload_n 0, 1) := by decide +kernel
theorem dX11_image_18 : decode cX11_image 18 = .ok (.dup, 1) := by decide +kernel
theorem dX11_image_19 : decode cX11_image 19 = .ok (.getfield 376, 3) := by decide +kernel
theorem dX11_image_22 : decode cX11_image 22 = .ok (.iconst 1, 1) := by decide +kernel
theorem dX11_image_23 : decode cX11_image 23 = .ok (.iadd, 1) := by decide +kernel
theorem dX11_image_24 : decode cX11_image 24 = .ok (.putfield 376, 3) := by decide +kernel
theorem dX11_image_27 : decode cX11_image 27 = .ok (.aload_n 0, 1) := by decide +kernel
theorem dX11_image_28 : decode cX11_image 28 = .ok (.getfield 376, 3) := by decide +kernel
theorem dX11_image_31 : decode cX11_image 31 = .ok (.ireturn, 1) := by decide +kernel
theorem dX11_restore_0 : decode cX11_restore 0 = .ok (.aload_n 0, 1) := by decide +kernel
theorem dX11_restore_1 : decode cX11_restore 1 = .ok (.getfield 277, 3) := by decide +kernel
theorem dX11_restore_4 : decode cX11_restore 4 = .ok (.ifCond .ne 10, 3) := by decide +kernel
theorem dX11_restore_7 : decode cX11_restore 7 = .ok (.aload_n 0, 1) := by decide +kernel
theorem dX11_restore_8 : decode cX11_restore 8 = .ok (.ldc 195, 2) := by decide +kernel
theorem dX11_restore_10 : decode cX11_restore 10 = .ok (.invokevirtual 79, 3) := by decide +kernel
theorem dX11_restore_13 : decode cX11_restore 13 = .ok (.ireturn, 1) := by decide +kernel
theorem dX11_restore_14 : decode cX11_restore 14 = .ok (.aload_n 0, 1) := by decide +kernel
theorem dX11_restore_15 : decode cX11_restore 15 = .ok (.aload_n 0, 1) := by decide +kernel
theorem dX11_restore_16 : decode cX11_restore 16 = .ok (.getfield 13, 3) := by decide +kernel
theorem dX11_restore_19 : decode cX11_restore 19 = .ok (.aload_n 0, 1) := by decide +kernel
theorem dX11_restore_20 : decode cX11_restore 20 = .ok (.getfield 7, 3) := by decide +kernel
theorem dX11_restore_23 : decode cX11_restore 23 = .ok (.invokevirtual 188, 3) := by decide +kernel
theorem dX11_restore_26 : decode cX11_restore 26 = .ok (.aload_n 0, 1) := by decide +kernel
theorem dX11_restore_27 : decode cX11_restore 27 = .ok (.getfield 7, 3) := by decide +kernel
theorem dX11_restore_30 : decode cX11_restore 30 = .ok (.iconst 3, 1) := by decide +kernel
theorem dX11_restore_31 : decode cX11_restore 31 = .ok (.iaload, 1) := by decide +kernel
theorem dX11_restore_32 : decode cX11_restore 32 = .ok (.ireturn, 1) := by decide +kernel
theorem dX11_tell_0 : decode cX11_tell 0 = .ok (.aload_n 0, 1) := by decide +kernel
theorem dX11_tell_1 : decode cX11_tell 1 = .ok (.getfield 7, 3) := by decide +kernel
theorem dX11_tell_4 : decode cX11_tell 4 = .ok (.bipush 6, 2) := by decide +kernel
theorem dX11_tell_6 : decode cX11_tell 6 = .ok (.iaload, 1) := by decide +kernel
theorem dX11_tell_7 : decode cX11_tell 7 = .ok (.bipush 20, 2) := by decide +kernel
theorem dX11_tell_9 : decode cX11_tell 9 = .ok (.if_icmp .ne 11, 3) := by decide +kernel
theorem dX11_tell_12 : decode cX11_tell 12 = .ok (.aload_n 0, 1) := by decide +kernel
theorem dX11_tell_13 : decode cX11_tell 13 = .ok (.ldc_w 260, 3) := by decide +kernel
theorem dX11_tell_16 : decode cX11_tell 16 = .ok (.invokevirtual 79, 3) := by decide +kernel
theorem dX11_tell_19 : decode cX11_tell 19 = .ok (.ireturn, 1) := by decide +kernel
theorem dX11_tell_20 : decode cX11_tell 20 = .ok (.aload_n 0, 1) := by decide +kernel
theorem dX11_tell_21 : decode cX11_tell 21 = .ok (.getfield 7, 3) := by decide +kernel
theorem dX11_tell_24 : decode cX11_tell 24 = .ok (.sipush 185, 3) := by decide +kernel
theorem dX11_tell_27 : decode cX11_tell 27 = .ok (.aload_n 0, 1) := by decide +kernel
theorem dX11_tell_28 : decode cX11_tell 28 = .ok (.getfield 7, 3) := by decide +kernel
theorem dX11_tell_31 : decode cX11_tell 31 = .ok (.bipush 6, 2) := by decide +kernel
theorem dX11_tell_33 : decode cX11_tell 33 = .ok (.iaload, 1) := by decide +kernel
theorem dX11_tell_34 : decode cX11_tell 34 = .ok (.iadd, 1) := by decide +kernel
theorem dX11_tell_35 : decode cX11_tell 35 = .ok (.iload_n 1, 1) := by decide +kernel
theorem dX11_tell_36 : decode cX11_tell 36 = .ok (.iastore, 1) := by decide +kernel
theorem dX11_tell_37 : decode cX11_tell 37 = .ok (.aload_n 0, 1) := by decide +kernel
theorem dX11_tell_38 : decode cX11_tell 38 = .ok (.getfield 7, 3) := by decide +kernel
theorem dX11_tell_41 : decode cX11_tell 41 = .ok (.bipush 6, 2) := by decide +kernel
theorem dX11_tell_43 : decode cX11_tell 43 = .ok (.dup2, 1) := by decide +kernel
theorem dX11_tell_44 : decode cX11_tell 44 = .ok (.iaload, 1) := by decide +kernel
theorem dX11_tell_45 : decode cX11_tell 45 = .ok (.iconst 1, 1) := by decide +kernel
theorem dX11_tell_46 : decode cX11_tell 46 = .ok (.iadd, 1) := by decide +kernel
theorem dX11_tell_47 : decode cX11_tell 47 = .ok (.iastore, 1) := by decide +kernel
theorem dX11_tell_48 : decode cX11_tell 48 = .ok (.aload_n 0, 1) := by decide +kernel
theorem dX11_tell_49 : decode cX11_tell 49 = .ok (.getfield 7, 3) := by decide +kernel
theorem dX11_tell_52 : decode cX11_tell 52 = .ok (.bipush 6, 2) := by decide +kernel
theorem dX11_tell_54 : decode cX11_tell 54 = .ok (.iaload, 1) := by decide +kernel
theorem dX11_tell_55 : decode cX11_tell 55 = .ok (.ireturn, 1) := by decide +kernel
theorem dX11_check_0 : decode cX11_check 0 = .ok (.aload_n 0, 1) := by decide +kernel
theorem dX11_check_1 : decode cX11_check 1 = .ok (.getfield 7, 3) := by decide +kernel
theorem dX11_check_4 : decode cX11_check 4 = .ok (.bipush 6, 2) := by decide +kernel
theorem dX11_check_6 : decode cX11_check 6 = .ok (.iaload, 1) := by decide +kernel
theorem dX11_check_7 : decode cX11_check 7 = .ok (.istore_n 1, 1) := by decide +kernel
theorem dX11_check_8 : decode cX11_check 8 = .ok (.aload_n 0, 1) := by decide +kernel
theorem dX11_check_9 : decode cX11_check 9 = .ok (.getfield 7, 3) := by decide +kernel
theorem dX11_check_12 : decode cX11_check 12 = .ok (.bipush 6, 2) := by decide +kernel
theorem dX11_check_14 : decode cX11_check 14 = .ok (.iconst 0, 1) := by decide +kernel
theorem dX11_check_15 : decode cX11_check 15 = .ok (.iastore, 1) := by decide +kernel
theorem dX11_check_16 : decode cX11_check 16 = .ok (.aload_n 0, 1) := by decide +kernel
theorem dX11_check_17 : decode cX11_check 17 = .ok (.aload_n 0, 1) := by decide +kernel
theorem dX11_check_18 : decode cX11_check 18 = .ok (.getfield 7, 3) := by decide +kernel
theorem dX11_check_21 : decode cX11_check 21 = .ok (.aload_n 0, 1) := by decide +kernel
theorem dX11_check_22 : decode cX11_check 22 = .ok (.getfield 16, 3) := by decide +kernel
theorem dX11_check_25 : decode cX11_check 25 = .ok (.invokevirtual 188, 3) := by decide +kernel
theorem dX11_check_28 : decode cX11_check 28 = .ok (.iconst 0, 1) := by decide +kernel
theorem dX11_check_29 : decode cX11_check 29 = .ok (.istore_n 2, 1) := by decide +kernel
theorem dX11_check_30 : decode cX11_check 30 = .ok (.iconst 1, 1) := by decide +kernel
theorem dX11_check_31 : decode cX11_check 31 = .ok (.istore_n 3, 1) := by decide +kernel
theorem dX11_check_32 : decode cX11_check 32 = .ok (.iload_n 2, 1) := by decide +kernel
theorem dX11_check_33 : decode cX11_check 33 = .ok (.iload_n 1, 1) := by decide +kernel
theorem dX11_check_34 : decode cX11_check 34 = .ok (.if_icmp .ge 66, 3) := by decide +kernel
theorem dX11_check_37 : decode cX11_check 37 = .ok (.iload_n 3, 1) := by decide +kernel
theorem dX11_check_38 : decode cX11_check 38 = .ok (.ifCond .eq 62, 3) := by decide +kernel
theorem dX11_check_41 : decode cX11_check 41 = .ok (.aload_n 0, 1) := by decide +kernel
theorem dX11_check_42 : decode cX11_check 42 = .ok (.iload_n 2, 1) := by decide +kernel
theorem dX11_check_43 : decode cX11_check 43 = .ok (.invokevirtual 182, 3) := by decide +kernel
theorem dX11_check_46 : decode cX11_check 46 = .ok (.ifCond .eq 25, 3) := by decide +kernel
theorem dX11_check_49 : decode cX11_check 49 = .ok (.aload_n 0, 1) := by decide +kernel
theorem dX11_check_50 : decode cX11_check 50 = .ok (.iload_n 2, 1) := by decide +kernel
theorem dX11_check_51 : decode cX11_check 51 = .ok (.invokevirtual 179, 3) := by decide +kernel
theorem dX11_check_54 : decode cX11_check 54 = .ok (.aload_n 0, 1) := by decide +kernel
theorem dX11_check_55 : decode cX11_check 55 = .ok (.getfield 7, 3) := by decide +kernel
theorem dX11_check_58 : decode cX11_check 58 = .ok (.sipush 185, 3) := by decide +kernel
theorem dX11_check_61 : decode cX11_check 61 = .ok (.iload_n 2, 1) := by decide +kernel
theorem dX11_check_62 : decode cX11_check 62 = .ok (.iadd, 1) := by decide +kernel
theorem dX11_check_63 : decode cX11_check 63 = .ok (.iaload, 1) := by decide +kernel
theorem dX11_check_64 : decode cX11_check 64 = .ok (.if_icmp .ne 7, 3) := by decide +kernel
theorem dX11_check_67 : decode cX11_check 67 = .ok (.iconst 1, 1) := by decide +kernel
theorem dX11_check_68 : decode cX11_check 68 = .ok (.goto 4, 3) := by decide +kernel
theorem dX11_check_71 : decode cX11_check 71 = .ok (.iconst 0, 1) := by decide +kernel
theorem dX11_check_72 : decode cX11_check 72 = .ok (.istore_n 3, 1) := by decide +kernel
theorem dX11_check_73 : decode cX11_check 73 = .ok (.aload_n 0, 1) := by decide +kernel
theorem dX11_check_74 : decode cX11_check 74 = .ok (.aload_n 0, 1) := by decide +kernel
theorem dX11_check_75 : decode cX11_check 75 = .ok (.getfield 16, 3) := by decide +kernel
theorem dX11_check_78 : decode cX11_check 78 = .ok (.aload_n 0, 1) := by decide +kernel
theorem dX11_check_79 : decode cX11_check 79 = .ok (.getfield 7, 3) := by decide +kernel
theorem dX11_check_82 : decode cX11_check 82 = .ok (.invokevirtual 188, 3) := by decide +kernel
theorem dX11_check_85 : decode cX11_check 85 = .ok (.iload_n 2, 1) := by decide +kernel
theorem dX11_check_86 : decode cX11_check 86 = .ok (.iload_n 3, 1) := by decide +kernel
theorem dX11_check_87 : decode cX11_check 87 = .ok (.ifCond .eq 7, 3) := by decide +kernel
theorem dX11_check_90 : decode cX11_check 90 = .ok (.iconst 1, 1) := by decide +kernel
theorem dX11_check_91 : decode cX11_check 91 = .ok (.goto 4, 3) := by decide +kernel
theorem dX11_check_94 : decode cX11_check 94 = .ok (.iconst 0, 1) := by decide +kernel
theorem dX11_check_95 : decode cX11_check 95 = .ok (.iadd, 1) := by decide +kernel
theorem dX11_check_96 : decode cX11_check 96 = .ok (.istore_n 2, 1) := by decide +kernel
theorem dX11_check_97 : decode cX11_check 97 = .ok (.goto (-65), 3) := by decide +kernel
theorem dX11_check_100 : decode cX11_check 100 = .ok (.iload_n 2, 1) := by decide +kernel
theorem dX11_check_101 : decode cX11_check 101 = .ok (.iload_n 1, 1) := by decide +kernel
theorem dX11_check_102 : decode cX11_check 102 = .ok (.if_icmp .ne 7, 3) := by decide +kernel
theorem dX11_check_105 : decode cX11_check 105 = .ok (.iconst 0, 1) := by decide +kernel
theorem dX11_check_106 : decode cX11_check 106 = .ok (.goto 6, 3) := by decide +kernel
theorem dX11_check_109 : decode cX11_check 109 = .ok (.iconst 1, 1) := by decide +kernel
theorem dX11_check_110 : decode cX11_check 110 = .ok (.iload_n 2, 1) := by decide +kernel
theorem dX11_check_111 : decode cX11_check 111 = .ok (.iadd, 1) := by decide +kernel
theorem dX11_check_112 : decode cX11_check 112 = .ok (.ireturn, 1) := by decide +kernel
theorem dX11_mirrors_0 : decode cX11_mirrors 0 = .ok (.iconst 0, 1) := by decide +kernel
theorem dX11_mirrors_1 : decode cX11_mirrors 1 = .ok (.istore_n 1, 1) := by decide +kernel
theorem dX11_mirrors_2 : decode cX11_mirrors 2 = .ok (.iconst 0, 1) := by decide +kernel
theorem dX11_mirrors_3 : decode cX11_mirrors 3 = .ok (.istore_n 2, 1) := by decide +kernel
theorem dX11_mirrors_4 : decode cX11_mirrors 4 = .ok (.iload_n 2, 1) := by decide +kernel
theorem dX11_mirrors_5 : decode cX11_mirrors 5 = .ok (.aload_n 0, 1) := by decide +kernel
theorem dX11_mirrors_6 : decode cX11_mirrors 6 = .ok (.invokevirtual 67, 3) := by decide +kernel
theorem dX11_mirrors_9 : decode cX11_mirrors 9 = .ok (.if_icmp .ge 25, 3) := by decide +kernel
theorem dX11_mirrors_12 : decode cX11_mirrors 12 = .ok (.iload_n 1, 1) := by decide +kernel
theorem dX11_mirrors_13 : decode cX11_mirrors 13 = .ok (.aload_n 0, 1) := by decide +kernel
theorem dX11_mirrors_14 : decode cX11_mirrors 14 = .ok (.iload_n 2, 1) := by decide +kernel
theorem dX11_mirrors_15 : decode cX11_mirrors 15 = .ok (.invokevirtual 105, 3) := by decide +kernel
theorem dX11_mirrors_18 : decode cX11_mirrors 18 = .ok (.ifCond .eq 7, 3) := by decide +kernel
theorem dX11_mirrors_21 : decode cX11_mirrors 21 = .ok (.iconst 1, 1) := by decide +kernel
theorem dX11_mirrors_22 : decode cX11_mirrors 22 = .ok (.goto 4, 3) := by decide +kernel
theorem dX11_mirrors_25 : decode cX11_mirrors 25 = .ok (.iconst 0, 1) := by decide +kernel
theorem dX11_mirrors_26 : decode cX11_mirrors 26 = .ok (.iadd, 1) := by decide +kernel
theorem dX11_mirrors_27 : decode cX11_mirrors 27 = .ok (.istore_n 1, 1) := by decide +kernel
theorem dX11_mirrors_28 : decode cX11_mirrors 28 = .ok (.iinc 2 1, 3) := by decide +kernel
theorem dX11_mirrors_31 : decode cX11_mirrors 31 = .ok (.goto (-27), 3) := by decide +kernel
theorem dX11_mirrors_34 : decode cX11_mirrors 34 = .ok (.iload_n 1, 1) := by decide +kernel
theorem dX11_mirrors_35 : decode cX11_mirrors 35 = .ok (.ireturn, 1) := by decide +kernel
theorem dX11_litAll_0 : decode cX11_litAll 0 = .ok (.iconst 0, 1) := by decide +kernel
theorem dX11_litAll_1 : decode cX11_litAll 1 = .ok (.istore_n 1, 1) := by decide +kernel
theorem dX11_litAll_2 : decode cX11_litAll 2 = .ok (.iconst 0, 1) := by decide +kernel
theorem dX11_litAll_3 : decode cX11_litAll 3 = .ok (.istore_n 2, 1) := by decide +kernel
theorem dX11_litAll_4 : decode cX11_litAll 4 = .ok (.iload_n 2, 1) := by decide +kernel
theorem dX11_litAll_5 : decode cX11_litAll 5 = .ok (.aload_n 0, 1) := by decide +kernel
theorem dX11_litAll_6 : decode cX11_litAll 6 = .ok (.invokevirtual 67, 3) := by decide +kernel
theorem dX11_litAll_9 : decode cX11_litAll 9 = .ok (.if_icmp .ge 18, 3) := by decide +kernel
theorem dX11_litAll_12 : decode cX11_litAll 12 = .ok (.iload_n 1, 1) := by decide +kernel
theorem dX11_litAll_13 : decode cX11_litAll 13 = .ok (.aload_n 0, 1) := by decide +kernel
theorem dX11_litAll_14 : decode cX11_litAll 14 = .ok (.iload_n 2, 1) := by decide +kernel
theorem dX11_litAll_15 : decode cX11_litAll 15 = .ok (.iconst 4, 1) := by decide +kernel
theorem dX11_litAll_16 : decode cX11_litAll 16 = .ok (.invokevirtual 87, 3) := by decide +kernel
theorem dX11_litAll_19 : decode cX11_litAll 19 = .ok (.iadd, 1) := by decide +kernel
theorem dX11_litAll_20 : decode cX11_litAll 20 = .ok (.istore_n 1, 1) := by decide +kernel
theorem dX11_litAll_21 : decode cX11_litAll 21 = .ok (.iinc 2 1, 3) := by decide +kernel
theorem dX11_litAll_24 : decode cX11_litAll 24 = .ok (.goto (-20), 3) := by decide +kernel
theorem dX11_litAll_27 : decode cX11_litAll 27 = .ok (.iload_n 1, 1) := by decide +kernel
theorem dX11_litAll_28 : decode cX11_litAll 28 = .ok (.ireturn, 1) := by decide +kernel
theorem dX11_count_0 : decode cX11_count 0 = .ok (.iload_n 1, 1) := by decide +kernel
theorem dX11_count_1 : decode cX11_count 1 = .ok (.tableswitch 129 0 10 #[59, 66, 73, 78, 83, 88, 95, 102, 109, 117, 122], 59) := by decide +kernel
theorem dX11_count_60 : decode cX11_count 60 = .ok (.aload_n 0, 1) := by decide +kernel
theorem dX11_count_61 : decode cX11_count 61 = .ok (.getfield 7, 3) := by decide +kernel
theorem dX11_count_64 : decode cX11_count 64 = .ok (.iconst 0, 1) := by decide +kernel
theorem dX11_count_65 : decode cX11_count 65 = .ok (.iaload, 1) := by decide +kernel
theorem dX11_count_66 : decode cX11_count 66 = .ok (.ireturn, 1) := by decide +kernel
theorem dX11_count_67 : decode cX11_count 67 = .ok (.aload_n 0, 1) := by decide +kernel
theorem dX11_count_68 : decode cX11_count 68 = .ok (.getfield 7, 3) := by decide +kernel
theorem dX11_count_71 : decode cX11_count 71 = .ok (.iconst 1, 1) := by decide +kernel
theorem dX11_count_72 : decode cX11_count 72 = .ok (.iaload, 1) := by decide +kernel
theorem dX11_count_73 : decode cX11_count 73 = .ok (.ireturn, 1) := by decide +kernel
theorem dX11_count_74 : decode cX11_count 74 = .ok (.aload_n 0, 1) := by decide +kernel
theorem dX11_count_75 : decode cX11_count 75 = .ok (.invokevirtual 75, 3) := by decide +kernel
theorem dX11_count_78 : decode cX11_count 78 = .ok (.ireturn, 1) := by decide +kernel
theorem dX11_count_79 : decode cX11_count 79 = .ok (.aload_n 0, 1) := by decide +kernel
theorem dX11_count_80 : decode cX11_count 80 = .ok (.invokevirtual 379, 3) := by decide +kernel
theorem dX11_count_83 : decode cX11_count 83 = .ok (.ireturn, 1) := by decide +kernel
theorem dX11_count_84 : decode cX11_count 84 = .ok (.aload_n 0, 1) := by decide +kernel
theorem dX11_count_85 : decode cX11_count 85 = .ok (.invokevirtual 382, 3) := by decide +kernel
theorem dX11_count_88 : decode cX11_count 88 = .ok (.ireturn, 1) := by decide +kernel
theorem dX11_count_89 : decode cX11_count 89 = .ok (.aload_n 0, 1) := by decide +kernel
theorem dX11_count_90 : decode cX11_count 90 = .ok (.getfield 7, 3) := by decide +kernel
theorem dX11_count_93 : decode cX11_count 93 = .ok (.iconst 2, 1) := by decide +kernel
theorem dX11_count_94 : decode cX11_count 94 = .ok (.iaload, 1) := by decide +kernel
theorem dX11_count_95 : decode cX11_count 95 = .ok (.ireturn, 1) := by decide +kernel
theorem dX11_count_96 : decode cX11_count 96 = .ok (.aload_n 0, 1) := by decide +kernel
theorem dX11_count_97 : decode cX11_count 97 = .ok (.getfield 7, 3) := by decide +kernel
theorem dX11_count_100 : decode cX11_count 100 = .ok (.iconst 3, 1) := by decide +kernel
theorem dX11_count_101 : decode cX11_count 101 = .ok (.iaload, 1) := by decide +kernel
theorem dX11_count_102 : decode cX11_count 102 = .ok (.ireturn, 1) := by decide +kernel
theorem dX11_count_103 : decode cX11_count 103 = .ok (.aload_n 0, 1) := by decide +kernel
theorem dX11_count_104 : decode cX11_count 104 = .ok (.getfield 7, 3) := by decide +kernel
theorem dX11_count_107 : decode cX11_count 107 = .ok (.iconst 5, 1) := by decide +kernel
theorem dX11_count_108 : decode cX11_count 108 = .ok (.iaload, 1) := by decide +kernel
theorem dX11_count_109 : decode cX11_count 109 = .ok (.ireturn, 1) := by decide +kernel
theorem dX11_count_110 : decode cX11_count 110 = .ok (.aload_n 0, 1) := by decide +kernel
theorem dX11_count_111 : decode cX11_count 111 = .ok (.getfield 7, 3) := by decide +kernel
theorem dX11_count_114 : decode cX11_count 114 = .ok (.bipush 6, 2) := by decide +kernel
theorem dX11_count_116 : decode cX11_count 116 = .ok (.iaload, 1) := by decide +kernel
theorem dX11_count_117 : decode cX11_count 117 = .ok (.ireturn, 1) := by decide +kernel
theorem dX11_count_118 : decode cX11_count 118 = .ok (.aload_n 0, 1) := by decide +kernel
theorem dX11_count_119 : decode cX11_count 119 = .ok (.getfield 346, 3) := by decide +kernel
theorem dX11_count_122 : decode cX11_count 122 = .ok (.ireturn, 1) := by decide +kernel
theorem dX11_count_123 : decode cX11_count 123 = .ok (.aload_n 0, 1) := by decide +kernel
theorem dX11_count_124 : decode cX11_count 124 = .ok (.getfield 7, 3) := by decide +kernel
theorem dX11_count_127 : decode cX11_count 127 = .ok (.iconst 4, 1) := by decide +kernel
theorem dX11_count_128 : decode cX11_count 128 = .ok (.iaload, 1) := by decide +kernel
theorem dX11_count_129 : decode cX11_count 129 = .ok (.ireturn, 1) := by decide +kernel
theorem dX11_count_130 : decode cX11_count 130 = .ok (.aload_n 0, 1) := by decide +kernel
theorem dX11_count_131 : decode cX11_count 131 = .ok (.ldc 78, 2) := by decide +kernel
theorem dX11_count_133 : decode cX11_count 133 = .ok (.invokevirtual 79, 3) := by decide +kernel
theorem dX11_count_136 : decode cX11_count 136 = .ok (.ireturn, 1) := by decide +kernel
theorem dX11_told_0 : decode cX11_told 0 = .ok (.iload_n 1, 1) := by decide +kernel
theorem dX11_told_1 : decode cX11_told 1 = .ok (.iconst 1, 1) := by decide +kernel
theorem dX11_told_2 : decode cX11_told 2 = .ok (.iconst 5, 1) := by decide +kernel
theorem dX11_told_3 : decode cX11_told 3 = .ok (.invokestatic 71, 3) := by decide +kernel
theorem dX11_told_6 : decode cX11_told 6 = .ok (.ifCond .eq 12, 3) := by decide +kernel
theorem dX11_told_9 : decode cX11_told 9 = .ok (.aload_n 0, 1) := by decide +kernel
theorem dX11_told_10 : decode cX11_told 10 = .ok (.getfield 22, 3) := by decide +kernel
theorem dX11_told_13 : decode cX11_told 13 = .ok (.iload_n 1, 1) := by decide +kernel
theorem dX11_told_14 : decode cX11_told 14 = .ok (.iaload, 1) := by decide +kernel
theorem dX11_told_15 : decode cX11_told 15 = .ok (.goto 9, 3) := by decide +kernel
theorem dX11_told_18 : decode cX11_told 18 = .ok (.aload_n 0, 1) := by decide +kernel
theorem dX11_told_19 : decode cX11_told 19 = .ok (.ldc 78, 2) := by decide +kernel
theorem dX11_told_21 : decode cX11_told 21 = .ok (.invokevirtual 79, 3) := by decide +kernel
theorem dX11_told_24 : decode cX11_told 24 = .ok (.ireturn, 1) := by decide +kernel

theorem dX10_init_0 : decode cX10_init 0 = .ok (.aload_n 0, 1) := by decide +kernel
theorem dX10_init_1 : decode cX10_init 1 = .ok (.invokespecial 1, 3) := by decide +kernel
theorem dX10_init_4 : decode cX10_init 4 = .ok (.aload_n 0, 1) := by decide +kernel
theorem dX10_init_5 : decode cX10_init 5 = .ok (.bipush 6, 2) := by decide +kernel
theorem dX10_init_7 : decode cX10_init 7 = .ok (.newarray .int, 2) := by decide +kernel
theorem dX10_init_9 : decode cX10_init 9 = .ok (.putfield 7, 3) := by decide +kernel
theorem dX10_init_12 : decode cX10_init 12 = .ok (.aload_n 0, 1) := by decide +kernel
theorem dX10_init_13 : decode cX10_init 13 = .ok (.new 13, 3) := by decide +kernel
theorem dX10_init_16 : decode cX10_init 16 = .ok (.dup, 1) := by decide +kernel
theorem dX10_init_17 : decode cX10_init 17 = .ok (.invokespecial 15, 3) := by decide +kernel
theorem dX10_init_20 : decode cX10_init 20 = .ok (.putfield 16, 3) := by decide +kernel
theorem dX10_init_23 : decode cX10_init 23 = .ok (.aload_n 0, 1) := by decide +kernel
theorem dX10_init_24 : decode cX10_init 24 = .ok (.new 13, 3) := by decide +kernel
theorem dX10_init_27 : decode cX10_init 27 = .ok (.dup, 1) := by decide +kernel
theorem dX10_init_28 : decode cX10_init 28 = .ok (.invokespecial 15, 3) := by decide +kernel
theorem dX10_init_31 : decode cX10_init 31 = .ok (.putfield 20, 3) := by decide +kernel
theorem dX10_init_34 : decode cX10_init 34 = .ok (.aload_n 0, 1) := by decide +kernel
theorem dX10_init_35 : decode cX10_init 35 = .ok (.iconst 0, 1) := by decide +kernel
theorem dX10_init_36 : decode cX10_init 36 = .ok (.putfield 23, 3) := by decide +kernel
theorem dX10_init_39 : decode cX10_init 39 = .ok (.aload_n 0, 1) := by decide +kernel
theorem dX10_init_40 : decode cX10_init 40 = .ok (.iconst 4, 1) := by decide +kernel
theorem dX10_init_41 : decode cX10_init 41 = .ok (.anewarray 27, 3) := by decide +kernel
theorem dX10_init_44 : decode cX10_init 44 = .ok (.putfield 29, 3) := by decide +kernel
theorem dX10_init_47 : decode cX10_init 47 = .ok (.aload_n 0, 1) := by decide +kernel
theorem dX10_init_48 : decode cX10_init 48 = .ok (.new 33, 3) := by decide +kernel
theorem dX10_init_51 : decode cX10_init 51 = .ok (.dup, 1) := by decide +kernel
theorem dX10_init_52 : decode cX10_init 52 = .ok (.invokespecial 35, 3) := by decide +kernel
theorem dX10_init_55 : decode cX10_init 55 = .ok (.putfield 36, 3) := by decide +kernel
theorem dX10_init_58 : decode cX10_init 58 = .ok (.aload_n 0, 1) := by decide +kernel
theorem dX10_init_59 : decode cX10_init 59 = .ok (.new 40, 3) := by decide +kernel
theorem dX10_init_62 : decode cX10_init 62 = .ok (.dup, 1) := by decide +kernel
theorem dX10_init_63 : decode cX10_init 63 = .ok (.invokespecial 42, 3) := by decide +kernel
theorem dX10_init_66 : decode cX10_init 66 = .ok (.putfield 43, 3) := by decide +kernel
theorem dX10_init_69 : decode cX10_init 69 = .ok (.aload_n 0, 1) := by decide +kernel
theorem dX10_init_70 : decode cX10_init 70 = .ok (.new 47, 3) := by decide +kernel
theorem dX10_init_73 : decode cX10_init 73 = .ok (.dup, 1) := by decide +kernel
theorem dX10_init_74 : decode cX10_init 74 = .ok (.invokespecial 49, 3) := by decide +kernel
theorem dX10_init_77 : decode cX10_init 77 = .ok (.putfield 50, 3) := by decide +kernel
theorem dX10_init_80 : decode cX10_init 80 = .ok (.aload_n 0, 1) := by decide +kernel
theorem dX10_init_81 : decode cX10_init 81 = .ok (.new 54, 3) := by decide +kernel
theorem dX10_init_84 : decode cX10_init 84 = .ok (.dup, 1) := by decide +kernel
theorem dX10_init_85 : decode cX10_init 85 = .ok (.invokespecial 56, 3) := by decide +kernel
theorem dX10_init_88 : decode cX10_init 88 = .ok (.putfield 57, 3) := by decide +kernel
theorem dX10_init_91 : decode cX10_init 91 = .ok (.aload_n 0, 1) := by decide +kernel
theorem dX10_init_92 : decode cX10_init 92 = .ok (.new 61, 3) := by decide +kernel
theorem dX10_init_95 : decode cX10_init 95 = .ok (.dup, 1) := by decide +kernel
theorem dX10_init_96 : decode cX10_init 96 = .ok (.invokespecial 63, 3) := by decide +kernel
theorem dX10_init_99 : decode cX10_init 99 = .ok (.putfield 64, 3) := by decide +kernel
theorem dX10_init_102 : decode cX10_init 102 = .ok (.aload_n 0, 1) := by decide +kernel
theorem dX10_init_103 : decode cX10_init 103 = .ok (.new 68, 3) := by decide +kernel
theorem dX10_init_106 : decode cX10_init 106 = .ok (.dup, 1) := by decide +kernel
theorem dX10_init_107 : decode cX10_init 107 = .ok (.invokespecial 70, 3) := by decide +kernel
theorem dX10_init_110 : decode cX10_init 110 = .ok (.putfield 71, 3) := by decide +kernel
theorem dX10_init_113 : decode cX10_init 113 = .ok (.aload_n 0, 1) := by decide +kernel
theorem dX10_init_114 : decode cX10_init 114 = .ok (.new 75, 3) := by decide +kernel
theorem dX10_init_117 : decode cX10_init 117 = .ok (.dup, 1) := by decide +kernel
theorem dX10_init_118 : decode cX10_init 118 = .ok (.invokespecial 77, 3) := by decide +kernel
theorem dX10_init_121 : decode cX10_init 121 = .ok (.putfield 78, 3) := by decide +kernel
theorem dX10_init_124 : decode cX10_init 124 = .ok (.iconst 0, 1) := by decide +kernel
theorem dX10_init_125 : decode cX10_init 125 = .ok (.istore_n 1, 1) := by decide +kernel
theorem dX10_init_126 : decode cX10_init 126 = .ok (.iload_n 1, 1) := by decide +kernel
theorem dX10_init_127 : decode cX10_init 127 = .ok (.aload_n 0, 1) := by decide +kernel
theorem dX10_init_128 : decode cX10_init 128 = .ok (.getfield 29, 3) := by decide +kernel
theorem dX10_init_131 : decode cX10_init 131 = .ok (.arraylength, 1) := by decide +kernel
theorem dX10_init_132 : decode cX10_init 132 = .ok (.if_icmp .ge 22, 3) := by decide +kernel
theorem dX10_init_135 : decode cX10_init 135 = .ok (.aload_n 0, 1) := by decide +kernel
theorem dX10_init_136 : decode cX10_init 136 = .ok (.getfield 29, 3) := by decide +kernel
theorem dX10_init_139 : decode cX10_init 139 = .ok (.iload_n 1, 1) := by decide +kernel
theorem dX10_init_140 : decode cX10_init 140 = .ok (.new 27, 3) := by decide +kernel
theorem dX10_init_143 : decode cX10_init 143 = .ok (.dup, 1) := by decide +kernel
theorem dX10_init_144 : decode cX10_init 144 = .ok (.invokespecial 82, 3) := by decide +kernel
theorem dX10_init_147 : decode cX10_init 147 = .ok (.aastore, 1) := by decide +kernel
theorem dX10_init_148 : decode cX10_init 148 = .ok (.iinc 1 1, 3) := by decide +kernel
theorem dX10_init_151 : decode cX10_init 151 = .ok (.goto (-25), 3) := by decide +kernel
theorem dX10_init_154 : decode cX10_init 154 = .ok (.return_, 1) := by decide +kernel
theorem dX10_hall_0 : decode cX10_hall 0 = .ok (.iload_n 1, 1) := by decide +kernel
theorem dX10_hall_1 : decode cX10_hall 1 = .ok (.iconst 1, 1) := by decide +kernel
theorem dX10_hall_2 : decode cX10_hall 2 = .ok (.iconst 5, 1) := by decide +kernel
theorem dX10_hall_3 : decode cX10_hall 3 = .ok (.invokestatic 83, 3) := by decide +kernel
theorem dX10_hall_6 : decode cX10_hall 6 = .ok (.ifCond .eq 12, 3) := by decide +kernel
theorem dX10_hall_9 : decode cX10_hall 9 = .ok (.iload_n 2, 1) := by decide +kernel
theorem dX10_hall_10 : decode cX10_hall 10 = .ok (.iconst 1, 1) := by decide +kernel
theorem dX10_hall_11 : decode cX10_hall 11 = .ok (.iconst 5, 1) := by decide +kernel
theorem dX10_hall_12 : decode cX10_hall 12 = .ok (.invokestatic 83, 3) := by decide +kernel
theorem dX10_hall_15 : decode cX10_hall 15 = .ok (.ifCond .ne 9, 3) := by decide +kernel
theorem dX10_hall_18 : decode cX10_hall 18 = .ok (.aload_n 0, 1) := by decide +kernel
theorem dX10_hall_19 : decode cX10_hall 19 = .ok (.iconst 1, 1) := by decide +kernel
theorem dX10_hall_20 : decode cX10_hall 20 = .ok (.invokevirtual 87, 3) := by decide +kernel
theorem dX10_hall_23 : decode cX10_hall 23 = .ok (.ireturn, 1) := by decide +kernel
theorem dX10_hall_24 : decode cX10_hall 24 = .ok (.aload_n 0, 1) := by decide +kernel
theorem dX10_hall_25 : decode cX10_hall 25 = .ok (.getfield 16, 3) := by decide +kernel
theorem dX10_hall_28 : decode cX10_hall 28 = .ok (.getfield 91, 3) := by decide +kernel
theorem dX10_hall_31 : decode cX10_hall 31 = .ok (.iload_n 1, 1) := by decide +kernel
theorem dX10_hall_32 : decode cX10_hall 32 = .ok (.iload_n 2, 1) := by decide +kernel
theorem dX10_hall_33 : decode cX10_hall 33 = .ok (.invokevirtual 94, 3) := by decide +kernel
theorem dX10_hall_36 : decode cX10_hall 36 = .ok (.aload_n 0, 1) := by decide +kernel
theorem dX10_hall_37 : decode cX10_hall 37 = .ok (.getfield 16, 3) := by decide +kernel
theorem dX10_hall_40 : decode cX10_hall 40 = .ok (.getfield 91, 3) := by decide +kernel
theorem dX10_hall_43 : decode cX10_hall 43 = .ok (.invokevirtual 98, 3) := by decide +kernel
theorem dX10_hall_46 : decode cX10_hall 46 = .ok (.ireturn, 1) := by decide +kernel
theorem dX10_square_0 : decode cX10_square 0 = .ok (.aload_n 0, 1) := by decide +kernel
theorem dX10_square_1 : decode cX10_square 1 = .ok (.getfield 16, 3) := by decide +kernel
theorem dX10_square_4 : decode cX10_square 4 = .ok (.getfield 91, 3) := by decide +kernel
theorem dX10_square_7 : decode cX10_square 7 = .ok (.astore 4, 2) := by decide +kernel
theorem dX10_square_9 : decode cX10_square 9 = .ok (.aload 4, 2) := by decide +kernel
theorem dX10_square_11 : decode cX10_square 11 = .ok (.iload_n 1, 1) := by decide +kernel
theorem dX10_square_12 : decode cX10_square 12 = .ok (.invokevirtual 102, 3) := by decide +kernel
theorem dX10_square_15 : decode cX10_square 15 = .ok (.ifCond .eq 22, 3) := by decide +kernel
theorem dX10_square_18 : decode cX10_square 18 = .ok (.iload_n 2, 1) := by decide +kernel
theorem dX10_square_19 : decode cX10_square 19 = .ok (.iconst 0, 1) := by decide +kernel
theorem dX10_square_20 : decode cX10_square 20 = .ok (.bipush 69, 2) := by decide +kernel
theorem dX10_square_22 : decode cX10_square 22 = .ok (.invokestatic 83, 3) := by decide +kernel
theorem dX10_square_25 : decode cX10_square 25 = .ok (.ifCond .eq 12, 3) := by decide +kernel
theorem dX10_square_28 : decode cX10_square 28 = .ok (.iload_n 3, 1) := by decide +kernel
theorem dX10_square_29 : decode cX10_square 29 = .ok (.iconst 0, 1) := by decide +kernel
theorem dX10_square_30 : decode cX10_square 30 = .ok (.iconst 1, 1) := by decide +kernel
theorem dX10_square_31 : decode cX10_square 31 = .ok (.invokestatic 83, 3) := by decide +kernel
theorem dX10_square_34 : decode cX10_square 34 = .ok (.ifCond .ne 9, 3) := by decide +kernel
theorem dX10_square_37 : decode cX10_square 37 = .ok (.aload_n 0, 1) := by decide +kernel
theorem dX10_square_38 : decode cX10_square 38 = .ok (.iconst 1, 1) := by decide +kernel
theorem dX10_square_39 : decode cX10_square 39 = .ok (.invokevirtual 87, 3) := by decide +kernel
theorem dX10_square_42 : decode cX10_square 42 = .ok (.ireturn, 1) := by decide +kernel
theorem dX10_square_43 : decode cX10_square 43 = .ok (.aload 4, 2) := by decide +kernel
theorem dX10_square_45 : decode cX10_square 45 = .ok (.getfield 106, 3) := by decide +kernel
theorem dX10_square_48 : decode cX10_square 48 = .ok (.iload_n 1, 1) := by decide +kernel
theorem dX10_square_49 : decode cX10_square 49 = .ok (.iaload, 1) := by decide +kernel
theorem dX10_square_50 : decode cX10_square 50 = .ok (.istore 5, 2) := by decide +kernel
theorem dX10_square_52 : decode cX10_square 52 = .ok (.aload 4, 2) := by decide +kernel
theorem dX10_square_54 : decode cX10_square 54 = .ok (.iload_n 1, 1) := by decide +kernel
theorem dX10_square_55 : decode cX10_square 55 = .ok (.iload_n 2, 1) := by decide +kernel
theorem dX10_square_56 : decode cX10_square 56 = .ok (.bipush 10, 2) := by decide +kernel
theorem dX10_square_58 : decode cX10_square 58 = .ok (.idiv, 1) := by decide +kernel
theorem dX10_square_59 : decode cX10_square 59 = .ok (.iload_n 2, 1) := by decide +kernel
theorem dX10_square_60 : decode cX10_square 60 = .ok (.bipush 10, 2) := by decide +kernel
theorem dX10_square_62 : decode cX10_square 62 = .ok (.irem, 1) := by decide +kernel
theorem dX10_square_63 : decode cX10_square 63 = .ok (.iload_n 3, 1) := by decide +kernel
theorem dX10_square_64 : decode cX10_square 64 = .ok (.invokevirtual 109, 3) := by decide +kernel
theorem dX10_square_67 : decode cX10_square 67 = .ok (.iload 5, 2) := by decide +kernel
theorem dX10_square_69 : decode cX10_square 69 = .ok (.ireturn, 1) := by decide +kernel
theorem dX10_ofSquare_0 : decode cX10_ofSquare 0 = .ok (.aload_n 0, 1) := by decide +kernel
theorem dX10_ofSquare_1 : decode cX10_ofSquare 1 = .ok (.getfield 16, 3) := by decide +kernel
theorem dX10_ofSquare_4 : decode cX10_ofSquare 4 = .ok (.getfield 91, 3) := by decide +kernel
theorem dX10_ofSquare_7 : decode cX10_ofSquare 7 = .ok (.astore_n 3, 1) := by decide +kernel
theorem dX10_ofSquare_8 : decode cX10_ofSquare 8 = .ok (.aload_n 3, 1) := by decide +kernel
theorem dX10_ofSquare_9 : decode cX10_ofSquare 9 = .ok (.iload_n 1, 1) := by decide +kernel
theorem dX10_ofSquare_10 : decode cX10_ofSquare 10 = .ok (.invokevirtual 102, 3) := by decide +kernel
theorem dX10_ofSquare_13 : decode cX10_ofSquare 13 = .ok (.ifCond .eq 13, 3) := by decide +kernel
theorem dX10_ofSquare_16 : decode cX10_ofSquare 16 = .ok (.iload_n 2, 1) := by decide +kernel
theorem dX10_ofSquare_17 : decode cX10_ofSquare 17 = .ok (.iconst 0, 1) := by decide +kernel
theorem dX10_ofSquare_18 : decode cX10_ofSquare 18 = .ok (.bipush 7, 2) := by decide +kernel
theorem dX10_ofSquare_20 : decode cX10_ofSquare 20 = .ok (.invokestatic 83, 3) := by decide +kernel
theorem dX10_ofSquare_23 : decode cX10_ofSquare 23 = .ok (.ifCond .ne 9, 3) := by decide +kernel
theorem dX10_ofSquare_26 : decode cX10_ofSquare 26 = .ok (.aload_n 0, 1) := by decide +kernel
theorem dX10_ofSquare_27 : decode cX10_ofSquare 27 = .ok (.iconst 1, 1) := by decide +kernel
theorem dX10_ofSquare_28 : decode cX10_ofSquare 28 = .ok (.invokevirtual 87, 3) := by decide +kernel
theorem dX10_ofSquare_31 : decode cX10_ofSquare 31 = .ok (.ireturn, 1) := by decide +kernel
theorem dX10_ofSquare_32 : decode cX10_ofSquare 32 = .ok (.aload_n 3, 1) := by decide +kernel
theorem dX10_ofSquare_33 : decode cX10_ofSquare 33 = .ok (.getfield 106, 3) := by decide +kernel
theorem dX10_ofSquare_36 : decode cX10_ofSquare 36 = .ok (.iload_n 1, 1) := by decide +kernel
theorem dX10_ofSquare_37 : decode cX10_ofSquare 37 = .ok (.iaload, 1) := by decide +kernel
theorem dX10_ofSquare_38 : decode cX10_ofSquare 38 = .ok (.istore 4, 2) := by decide +kernel
theorem dX10_ofSquare_40 : decode cX10_ofSquare 40 = .ok (.iload_n 2, 1) := by decide +kernel
theorem dX10_ofSquare_41 : decode cX10_ofSquare 41 = .ok (.tableswitch 107 0 6 #[43, 46, 53, 59, 65, 72, 93], 43) := by decide +kernel
theorem dX10_ofSquare_84 : decode cX10_ofSquare 84 = .ok (.iload 4, 2) := by decide +kernel
theorem dX10_ofSquare_86 : decode cX10_ofSquare 86 = .ok (.ireturn, 1) := by decide +kernel
theorem dX10_ofSquare_87 : decode cX10_ofSquare 87 = .ok (.aload_n 3, 1) := by decide +kernel
theorem dX10_ofSquare_88 : decode cX10_ofSquare 88 = .ok (.getfield 113, 3) := by decide +kernel
theorem dX10_ofSquare_91 : decode cX10_ofSquare 91 = .ok (.iload_n 1, 1) := by decide +kernel
theorem dX10_ofSquare_92 : decode cX10_ofSquare 92 = .ok (.iaload, 1) := by decide +kernel
theorem dX10_ofSquare_93 : decode cX10_ofSquare 93 = .ok (.ireturn, 1) := by decide +kernel
theorem dX10_ofSquare_94 : decode cX10_ofSquare 94 = .ok (.aload_n 3, 1) := by decide +kernel
theorem dX10_ofSquare_95 : decode cX10_ofSquare 95 = .ok (.iload_n 1, 1) := by decide +kernel
theorem dX10_ofSquare_96 : decode cX10_ofSquare 96 = .ok (.invokevirtual 116, 3) := by decide +kernel
theorem dX10_ofSquare_99 : decode cX10_ofSquare 99 = .ok (.ireturn, 1) := by decide +kernel
theorem dX10_ofSquare_100 : decode cX10_ofSquare 100 = .ok (.aload_n 3, 1) := by decide +kernel
theorem dX10_ofSquare_101 : decode cX10_ofSquare 101 = .ok (.iload_n 1, 1) := by decide +kernel
theorem dX10_ofSquare_102 : decode cX10_ofSquare 102 = .ok (.invokevirtual 119, 3) := by decide +kernel
theorem dX10_ofSquare_105 : decode cX10_ofSquare 105 = .ok (.ireturn, 1) := by decide +kernel
theorem dX10_ofSquare_106 : decode cX10_ofSquare 106 = .ok (.aload_n 3, 1) := by decide +kernel
theorem dX10_ofSquare_107 : decode cX10_ofSquare 107 = .ok (.getfield 122, 3) := by decide +kernel
theorem dX10_ofSquare_110 : decode cX10_ofSquare 110 = .ok (.iload_n 1, 1) := by decide +kernel
theorem dX10_ofSquare_111 : decode cX10_ofSquare 111 = .ok (.iaload, 1) := by decide +kernel
theorem dX10_ofSquare_112 : decode cX10_ofSquare 112 = .ok (.ireturn, 1) := by decide +kernel
theorem dX10_ofSquare_113 : decode cX10_ofSquare 113 = .ok (.aload_n 3, 1) := by decide +kernel
theorem dX10_ofSquare_114 : decode cX10_ofSquare 114 = .ok (.iload_n 1, 1) := by decide +kernel
theorem dX10_ofSquare_115 : decode cX10_ofSquare 115 = .ok (.invokevirtual 125, 3) := by decide +kernel
theorem dX10_ofSquare_118 : decode cX10_ofSquare 118 = .ok (.ifCond .eq 14, 3) := by decide +kernel
theorem dX10_ofSquare_121 : decode cX10_ofSquare 121 = .ok (.aload_n 0, 1) := by decide +kernel
theorem dX10_ofSquare_122 : decode cX10_ofSquare 122 = .ok (.getfield 16, 3) := by decide +kernel
theorem dX10_ofSquare_125 : decode cX10_ofSquare 125 = .ok (.iload_n 1, 1) := by decide +kernel
theorem dX10_ofSquare_126 : decode cX10_ofSquare 126 = .ok (.invokevirtual 128, 3) := by decide +kernel
theorem dX10_ofSquare_129 : decode cX10_ofSquare 129 = .ok (.goto 4, 3) := by decide +kernel
theorem dX10_ofSquare_132 : decode cX10_ofSquare 132 = .ok (.iconst (-1), 1) := by decide +kernel
theorem dX10_ofSquare_133 : decode cX10_ofSquare 133 = .ok (.ireturn, 1) := by decide +kernel
theorem dX10_ofSquare_134 : decode cX10_ofSquare 134 = .ok (.iload 4, 2) := by decide +kernel
theorem dX10_ofSquare_136 : decode cX10_ofSquare 136 = .ok (.invokestatic 131, 3) := by decide +kernel
theorem dX10_ofSquare_139 : decode cX10_ofSquare 139 = .ok (.ifCond .eq 7, 3) := by decide +kernel
theorem dX10_ofSquare_142 : decode cX10_ofSquare 142 = .ok (.iconst 1, 1) := by decide +kernel
theorem dX10_ofSquare_143 : decode cX10_ofSquare 143 = .ok (.goto 4, 3) := by decide +kernel
theorem dX10_ofSquare_146 : decode cX10_ofSquare 146 = .ok (.iconst 0, 1) := by decide +kernel
theorem dX10_ofSquare_147 : decode cX10_ofSquare 147 = .ok (.ireturn, 1) := by decide +kernel
theorem dX10_ofSquare_148 : decode cX10_ofSquare 148 = .ok (.iload 4, 2) := by decide +kernel
theorem dX10_ofSquare_150 : decode cX10_ofSquare 150 = .ok (.invokestatic 134, 3) := by decide +kernel
theorem dX10_ofSquare_153 : decode cX10_ofSquare 153 = .ok (.ifCond .eq 7, 3) := by decide +kernel
theorem dX10_ofSquare_156 : decode cX10_ofSquare 156 = .ok (.iconst 1, 1) := by decide +kernel
theorem dX10_ofSquare_157 : decode cX10_ofSquare 157 = .ok (.goto 4, 3) := by decide +kernel
theorem dX10_ofSquare_160 : decode cX10_ofSquare 160 = .ok (.iconst 0, 1) := by decide +kernel
theorem dX10_ofSquare_161 : decode cX10_ofSquare 161 = .ok (.ireturn, 1) := by decide +kernel
theorem dX10_as_0 : decode cX10_as 0 = .ok (.aload_n 0, 1) := by decide +kernel
theorem dX10_as_1 : decode cX10_as 1 = .ok (.getfield 16, 3) := by decide +kernel
theorem dX10_as_4 : decode cX10_as 4 = .ok (.getfield 91, 3) := by decide +kernel
theorem dX10_as_7 : decode cX10_as 7 = .ok (.astore_n 3, 1) := by decide +kernel
theorem dX10_as_8 : decode cX10_as 8 = .ok (.aload_n 3, 1) := by decide +kernel
theorem dX10_as_9 : decode cX10_as 9 = .ok (.iload_n 1, 1) := by decide +kernel
theorem dX10_as_10 : decode cX10_as 10 = .ok (.invokevirtual 102, 3) := by decide +kernel
theorem dX10_as_13 : decode cX10_as 13 = .ok (.ifCond .eq 13, 3) := by decide +kernel
theorem dX10_as_16 : decode cX10_as 16 = .ok (.iload_n 2, 1) := by decide +kernel
theorem dX10_as_17 : decode cX10_as 17 = .ok (.iconst 0, 1) := by decide +kernel
theorem dX10_as_18 : decode cX10_as 18 = .ok (.bipush 6, 2) := by decide +kernel
theorem dX10_as_20 : decode cX10_as 20 = .ok (.invokestatic 83, 3) := by decide +kernel
theorem dX10_as_23 : decode cX10_as 23 = .ok (.ifCond .ne 9, 3) := by decide +kernel
theorem dX10_as_26 : decode cX10_as 26 = .ok (.aload_n 0, 1) := by decide +kernel
theorem dX10_as_27 : decode cX10_as 27 = .ok (.iconst 1, 1) := by decide +kernel
theorem dX10_as_28 : decode cX10_as 28 = .ok (.invokevirtual 87, 3) := by decide +kernel
theorem dX10_as_31 : decode cX10_as 31 = .ok (.ireturn, 1) := by decide +kernel
theorem dX10_as_32 : decode cX10_as 32 = .ok (.aload_n 3, 1) := by decide +kernel
theorem dX10_as_33 : decode cX10_as 33 = .ok (.getfield 106, 3) := by decide +kernel
theorem dX10_as_36 : decode cX10_as 36 = .ok (.iload_n 1, 1) := by decide +kernel
theorem dX10_as_37 : decode cX10_as 37 = .ok (.iaload, 1) := by decide +kernel
theorem dX10_as_38 : decode cX10_as 38 = .ok (.iload_n 2, 1) := by decide +kernel
theorem dX10_as_39 : decode cX10_as 39 = .ok (.invokestatic 137, 3) := by decide +kernel
theorem dX10_as_42 : decode cX10_as 42 = .ok (.ifCond .eq 12, 3) := by decide +kernel
theorem dX10_as_45 : decode cX10_as 45 = .ok (.aload_n 3, 1) := by decide +kernel
theorem dX10_as_46 : decode cX10_as 46 = .ok (.getfield 113, 3) := by decide +kernel
theorem dX10_as_49 : decode cX10_as 49 = .ok (.iload_n 1, 1) := by decide +kernel
theorem dX10_as_50 : decode cX10_as 50 = .ok (.iaload, 1) := by decide +kernel
theorem dX10_as_51 : decode cX10_as 51 = .ok (.goto 8, 3) := by decide +kernel
theorem dX10_as_54 : decode cX10_as 54 = .ok (.aload_n 0, 1) := by decide +kernel
theorem dX10_as_55 : decode cX10_as 55 = .ok (.iconst 5, 1) := by decide +kernel
theorem dX10_as_56 : decode cX10_as 56 = .ok (.invokevirtual 87, 3) := by decide +kernel
theorem dX10_as_59 : decode cX10_as 59 = .ok (.ireturn, 1) := by decide +kernel
theorem dX10_hand_0 : decode cX10_hand 0 = .ok (.aload_n 0, 1) := by decide +kernel
theorem dX10_hand_1 : decode cX10_hand 1 = .ok (.getfield 16, 3) := by decide +kernel
theorem dX10_hand_4 : decode cX10_hand 4 = .ok (.getfield 91, 3) := by decide +kernel
theorem dX10_hand_7 : decode cX10_hand 7 = .ok (.iload_n 1, 1) := by decide +kernel
theorem dX10_hand_8 : decode cX10_hand 8 = .ok (.invokevirtual 102, 3) := by decide +kernel
theorem dX10_hand_11 : decode cX10_hand 11 = .ok (.ifCond .ne 9, 3) := by decide +kernel
theorem dX10_hand_14 : decode cX10_hand 14 = .ok (.aload_n 0, 1) := by decide +kernel
theorem dX10_hand_15 : decode cX10_hand 15 = .ok (.iconst 1, 1) := by decide +kernel
theorem dX10_hand_16 : decode cX10_hand 16 = .ok (.invokevirtual 87, 3) := by decide +kernel
theorem dX10_hand_19 : decode cX10_hand 19 = .ok (.ireturn, 1) := by decide +kernel
theorem dX10_hand_20 : decode cX10_hand 20 = .ok (.aload_n 0, 1) := by decide +kernel
theorem dX10_hand_21 : decode cX10_hand 21 = .ok (.getfield 16, 3) := by decide +kernel
theorem dX10_hand_24 : decode cX10_hand 24 = .ok (.iload_n 1, 1) := by decide +kernel
theorem dX10_hand_25 : decode cX10_hand 25 = .ok (.invokevirtual 141, 3) := by decide +kernel
theorem dX10_hand_28 : decode cX10_hand 28 = .ok (.ifCond .eq 17, 3) := by decide +kernel
theorem dX10_hand_31 : decode cX10_hand 31 = .ok (.aload_n 0, 1) := by decide +kernel
theorem dX10_hand_32 : decode cX10_hand 32 = .ok (.getfield 16, 3) := by decide +kernel
theorem dX10_hand_35 : decode cX10_hand 35 = .ok (.getfield 91, 3) := by decide +kernel
theorem dX10_hand_38 : decode cX10_hand 38 = .ok (.iload_n 1, 1) := by decide +kernel
theorem dX10_hand_39 : decode cX10_hand 39 = .ok (.invokevirtual 116, 3) := by decide +kernel
theorem dX10_hand_42 : decode cX10_hand 42 = .ok (.goto 8, 3) := by decide +kernel
theorem dX10_hand_45 : decode cX10_hand 45 = .ok (.aload_n 0, 1) := by decide +kernel
theorem dX10_hand_46 : decode cX10_hand 46 = .ok (.iconst 3, 1) := by decide +kernel
theorem dX10_hand_47 : decode cX10_hand 47 = .ok (.invokevirtual 87, 3) := by decide +kernel
theorem dX10_hand_50 : decode cX10_hand 50 = .ok (.ireturn, 1) := by decide +kernel
theorem dX10_slants_0 : decode cX10_slants 0 = .ok (.aload_n 0, 1) := by decide +kernel
theorem dX10_slants_1 : decode cX10_slants 1 = .ok (.getfield 16, 3) := by decide +kernel
theorem dX10_slants_4 : decode cX10_slants 4 = .ok (.getfield 91, 3) := by decide +kernel
theorem dX10_slants_7 : decode cX10_slants 7 = .ok (.getfield 144, 3) := by decide +kernel
theorem dX10_slants_10 : decode cX10_slants 10 = .ok (.ireturn, 1) := by decide +kernel
theorem dX10_let_0 : decode cX10_let 0 = .ok (.aload_n 0, 1) := by decide +kernel
theorem dX10_let_1 : decode cX10_let 1 = .ok (.getfield 16, 3) := by decide +kernel
theorem dX10_let_4 : decode cX10_let 4 = .ok (.getfield 91, 3) := by decide +kernel
theorem dX10_let_7 : decode cX10_let 7 = .ok (.iload_n 1, 1) := by decide +kernel
theorem dX10_let_8 : decode cX10_let 8 = .ok (.invokevirtual 147, 3) := by decide +kernel
theorem dX10_let_11 : decode cX10_let 11 = .ok (.ifCond .eq 18, 3) := by decide +kernel
theorem dX10_let_14 : decode cX10_let 14 = .ok (.aload_n 0, 1) := by decide +kernel
theorem dX10_let_15 : decode cX10_let 15 = .ok (.getfield 16, 3) := by decide +kernel
theorem dX10_let_18 : decode cX10_let 18 = .ok (.aload_n 0, 1) := by decide +kernel
theorem dX10_let_19 : decode cX10_let 19 = .ok (.getfield 36, 3) := by decide +kernel
theorem dX10_let_22 : decode cX10_let 22 = .ok (.iload_n 1, 1) := by decide +kernel
theorem dX10_let_23 : decode cX10_let 23 = .ok (.invokevirtual 150, 3) := by decide +kernel
theorem dX10_let_26 : decode cX10_let 26 = .ok (.goto 8, 3) := by decide +kernel
theorem dX10_let_29 : decode cX10_let 29 = .ok (.aload_n 0, 1) := by decide +kernel
theorem dX10_let_30 : decode cX10_let 30 = .ok (.iconst 1, 1) := by decide +kernel
theorem dX10_let_31 : decode cX10_let 31 = .ok (.invokevirtual 87, 3) := by decide +kernel
theorem dX10_let_34 : decode cX10_let 34 = .ok (.ireturn, 1) := by decide +kernel
theorem dX10_out_0 : decode cX10_out 0 = .ok (.aload_n 0, 1) := by decide +kernel
theorem dX10_out_1 : decode cX10_out 1 = .ok (.getfield 16, 3) := by decide +kernel
theorem dX10_out_4 : decode cX10_out 4 = .ok (.getfield 91, 3) := by decide +kernel
theorem dX10_out_7 : decode cX10_out 7 = .ok (.iload_n 1, 1) := by decide +kernel
theorem dX10_out_8 : decode cX10_out 8 = .ok (.invokevirtual 147, 3) := by decide +kernel
theorem dX10_out_11 : decode cX10_out 11 = .ok (.ifCond .eq 12, 3) := by decide +kernel
theorem dX10_out_14 : decode cX10_out 14 = .ok (.iload_n 2, 1) := by decide +kernel
theorem dX10_out_15 : decode cX10_out 15 = .ok (.iconst 0, 1) := by decide +kernel
theorem dX10_out_16 : decode cX10_out 16 = .ok (.iconst 3, 1) := by decide +kernel
theorem dX10_out_17 : decode cX10_out 17 = .ok (.invokestatic 83, 3) := by decide +kernel
theorem dX10_out_20 : decode cX10_out 20 = .ok (.ifCond .ne 9, 3) := by decide +kernel
theorem dX10_out_23 : decode cX10_out 23 = .ok (.aload_n 0, 1) := by decide +kernel
theorem dX10_out_24 : decode cX10_out 24 = .ok (.iconst 1, 1) := by decide +kernel
theorem dX10_out_25 : decode cX10_out 25 = .ok (.invokevirtual 87, 3) := by decide +kernel
theorem dX10_out_28 : decode cX10_out 28 = .ok (.ireturn, 1) := by decide +kernel
theorem dX10_out_29 : decode cX10_out 29 = .ok (.aload_n 0, 1) := by decide +kernel
theorem dX10_out_30 : decode cX10_out 30 = .ok (.getfield 43, 3) := by decide +kernel
theorem dX10_out_33 : decode cX10_out 33 = .ok (.aload_n 0, 1) := by decide +kernel
theorem dX10_out_34 : decode cX10_out 34 = .ok (.getfield 16, 3) := by decide +kernel
theorem dX10_out_37 : decode cX10_out 37 = .ok (.getfield 91, 3) := by decide +kernel
theorem dX10_out_40 : decode cX10_out 40 = .ok (.invokevirtual 154, 3) := by decide +kernel
theorem dX10_out_43 : decode cX10_out 43 = .ok (.aload_n 0, 1) := by decide +kernel
theorem dX10_out_44 : decode cX10_out 44 = .ok (.getfield 36, 3) := by decide +kernel
theorem dX10_out_47 : decode cX10_out 47 = .ok (.aload_n 0, 1) := by decide +kernel
theorem dX10_out_48 : decode cX10_out 48 = .ok (.getfield 43, 3) := by decide +kernel
theorem dX10_out_51 : decode cX10_out 51 = .ok (.iload_n 1, 1) := by decide +kernel
theorem dX10_out_52 : decode cX10_out 52 = .ok (.invokevirtual 158, 3) := by decide +kernel
theorem dX10_out_55 : decode cX10_out 55 = .ok (.istore_n 3, 1) := by decide +kernel
theorem dX10_out_56 : decode cX10_out 56 = .ok (.iload_n 2, 1) := by decide +kernel
theorem dX10_out_57 : decode cX10_out 57 = .ok (.tableswitch 45 0 2 #[27, 29, 37], 27) := by decide +kernel
theorem dX10_out_84 : decode cX10_out 84 = .ok (.iload_n 3, 1) := by decide +kernel
theorem dX10_out_85 : decode cX10_out 85 = .ok (.ireturn, 1) := by decide +kernel
theorem dX10_out_86 : decode cX10_out 86 = .ok (.aload_n 0, 1) := by decide +kernel
theorem dX10_out_87 : decode cX10_out 87 = .ok (.getfield 36, 3) := by decide +kernel
theorem dX10_out_90 : decode cX10_out 90 = .ok (.getfield 162, 3) := by decide +kernel
theorem dX10_out_93 : decode cX10_out 93 = .ok (.ireturn, 1) := by decide +kernel
theorem dX10_out_94 : decode cX10_out 94 = .ok (.aload_n 0, 1) := by decide +kernel
theorem dX10_out_95 : decode cX10_out 95 = .ok (.getfield 36, 3) := by decide +kernel
theorem dX10_out_98 : decode cX10_out 98 = .ok (.getfield 165, 3) := by decide +kernel
theorem dX10_out_101 : decode cX10_out 101 = .ok (.ireturn, 1) := by decide +kernel
theorem dX10_out_102 : decode cX10_out 102 = .ok (.aload_n 0, 1) := by decide +kernel
theorem dX10_out_103 : decode cX10_out 103 = .ok (.getfield 43, 3) := by decide +kernel
theorem dX10_out_106 : decode cX10_out 106 = .ok (.getfield 144, 3) := by decide +kernel
theorem dX10_out_109 : decode cX10_out 109 = .ok (.aload_n 0, 1) := by decide +kernel
theorem dX10_out_110 : decode cX10_out 110 = .ok (.getfield 16, 3) := by decide +kernel
theorem dX10_out_113 : decode cX10_out 113 = .ok (.getfield 91, 3) := by decide +kernel
theorem dX10_out_116 : decode cX10_out 116 = .ok (.getfield 144, 3) := by decide +kernel
theorem dX10_out_119 : decode cX10_out 119 = .ok (.ixor, 1) := by decide +kernel
theorem dX10_out_120 : decode cX10_out 120 = .ok (.invokestatic 168, 3) := by decide +kernel
theorem dX10_out_123 : decode cX10_out 123 = .ok (.ireturn, 1) := by decide +kernel
theorem dX10_way_0 : decode cX10_way 0 = .ok (.aload_n 0, 1) := by decide +kernel
theorem dX10_way_1 : decode cX10_way 1 = .ok (.getfield 16, 3) := by decide +kernel
theorem dX10_way_4 : decode cX10_way 4 = .ok (.getfield 91, 3) := by decide +kernel
theorem dX10_way_7 : decode cX10_way 7 = .ok (.iload_n 1, 1) := by decide +kernel
theorem dX10_way_8 : decode cX10_way 8 = .ok (.invokevirtual 147, 3) := by decide +kernel
theorem dX10_way_11 : decode cX10_way 11 = .ok (.ifCond .eq 7, 3) := by decide +kernel
theorem dX10_way_14 : decode cX10_way 14 = .ok (.iload_n 2, 1) := by decide +kernel
theorem dX10_way_15 : decode cX10_way 15 = .ok (.ifCond .ge 9, 3) := by decide +kernel
theorem dX10_way_18 : decode cX10_way 18 = .ok (.aload_n 0, 1) := by decide +kernel
theorem dX10_way_19 : decode cX10_way 19 = .ok (.iconst 1, 1) := by decide +kernel
theorem dX10_way_20 : decode cX10_way 20 = .ok (.invokevirtual 87, 3) := by decide +kernel
theorem dX10_way_23 : decode cX10_way 23 = .ok (.ireturn, 1) := by decide +kernel
theorem dX10_way_24 : decode cX10_way 24 = .ok (.aload_n 0, 1) := by decide +kernel
theorem dX10_way_25 : decode cX10_way 25 = .ok (.getfield 43, 3) := by decide +kernel
theorem dX10_way_28 : decode cX10_way 28 = .ok (.aload_n 0, 1) := by decide +kernel
theorem dX10_way_29 : decode cX10_way 29 = .ok (.getfield 16, 3) := by decide +kernel
theorem dX10_way_32 : decode cX10_way 32 = .ok (.getfield 91, 3) := by decide +kernel
theorem dX10_way_35 : decode cX10_way 35 = .ok (.invokevirtual 154, 3) := by decide +kernel
theorem dX10_way_38 : decode cX10_way 38 = .ok (.aload_n 0, 1) := by decide +kernel
theorem dX10_way_39 : decode cX10_way 39 = .ok (.getfield 36, 3) := by decide +kernel
theorem dX10_way_42 : decode cX10_way 42 = .ok (.aload_n 0, 1) := by decide +kernel
theorem dX10_way_43 : decode cX10_way 43 = .ok (.getfield 43, 3) := by decide +kernel
theorem dX10_way_46 : decode cX10_way 46 = .ok (.iload_n 1, 1) := by decide +kernel
theorem dX10_way_47 : decode cX10_way 47 = .ok (.iload_n 2, 1) := by decide +kernel
theorem dX10_way_48 : decode cX10_way 48 = .ok (.invokevirtual 173, 3) := by decide +kernel
theorem dX10_way_51 : decode cX10_way 51 = .ok (.istore_n 3, 1) := by decide +kernel
theorem dX10_way_52 : decode cX10_way 52 = .ok (.iload_n 3, 1) := by decide +kernel
theorem dX10_way_53 : decode cX10_way 53 = .ok (.ifCond .ge 11, 3) := by decide +kernel
theorem dX10_way_56 : decode cX10_way 56 = .ok (.aload_n 0, 1) := by decide +kernel
theorem dX10_way_57 : decode cX10_way 57 = .ok (.iconst 2, 1) := by decide +kernel
theorem dX10_way_58 : decode cX10_way 58 = .ok (.invokevirtual 87, 3) := by decide +kernel
theorem dX10_way_61 : decode cX10_way 61 = .ok (.goto 4, 3) := by decide +kernel
theorem dX10_way_64 : decode cX10_way 64 = .ok (.iload_n 3, 1) := by decide +kernel
theorem dX10_way_65 : decode cX10_way 65 = .ok (.ireturn, 1) := by decide +kernel
theorem dX10_undo_0 : decode cX10_undo 0 = .ok (.aload_n 0, 1) := by decide +kernel
theorem dX10_undo_1 : decode cX10_undo 1 = .ok (.getfield 16, 3) := by decide +kernel
theorem dX10_undo_4 : decode cX10_undo 4 = .ok (.getfield 91, 3) := by decide +kernel
theorem dX10_undo_7 : decode cX10_undo 7 = .ok (.iload_n 1, 1) := by decide +kernel
theorem dX10_undo_8 : decode cX10_undo 8 = .ok (.invokevirtual 147, 3) := by decide +kernel
theorem dX10_undo_11 : decode cX10_undo 11 = .ok (.ifCond .ne 9, 3) := by decide +kernel
theorem dX10_undo_14 : decode cX10_undo 14 = .ok (.aload_n 0, 1) := by decide +kernel
theorem dX10_undo_15 : decode cX10_undo 15 = .ok (.iconst 1, 1) := by decide +kernel
theorem dX10_undo_16 : decode cX10_undo 16 = .ok (.invokevirtual 87, 3) := by decide +kernel
theorem dX10_undo_19 : decode cX10_undo 19 = .ok (.ireturn, 1) := by decide +kernel
theorem dX10_undo_20 : decode cX10_undo 20 = .ok (.aload_n 0, 1) := by decide +kernel
theorem dX10_undo_21 : decode cX10_undo 21 = .ok (.getfield 43, 3) := by decide +kernel
theorem dX10_undo_24 : decode cX10_undo 24 = .ok (.aload_n 0, 1) := by decide +kernel
theorem dX10_undo_25 : decode cX10_undo 25 = .ok (.getfield 16, 3) := by decide +kernel
theorem dX10_undo_28 : decode cX10_undo 28 = .ok (.getfield 91, 3) := by decide +kernel
theorem dX10_undo_31 : decode cX10_undo 31 = .ok (.invokevirtual 154, 3) := by decide +kernel
theorem dX10_undo_34 : decode cX10_undo 34 = .ok (.aload_n 0, 1) := by decide +kernel
theorem dX10_undo_35 : decode cX10_undo 35 = .ok (.getfield 36, 3) := by decide +kernel
theorem dX10_undo_38 : decode cX10_undo 38 = .ok (.aload_n 0, 1) := by decide +kernel
theorem dX10_undo_39 : decode cX10_undo 39 = .ok (.getfield 43, 3) := by decide +kernel
theorem dX10_undo_42 : decode cX10_undo 42 = .ok (.iload_n 1, 1) := by decide +kernel
theorem dX10_undo_43 : decode cX10_undo 43 = .ok (.invokevirtual 177, 3) := by decide +kernel
theorem dX10_undo_46 : decode cX10_undo 46 = .ok (.istore_n 2, 1) := by decide +kernel
theorem dX10_undo_47 : decode cX10_undo 47 = .ok (.iload_n 2, 1) := by decide +kernel
theorem dX10_undo_48 : decode cX10_undo 48 = .ok (.bipush 100, 2) := by decide +kernel
theorem dX10_undo_50 : decode cX10_undo 50 = .ok (.if_icmp .ne 9, 3) := by decide +kernel
theorem dX10_undo_53 : decode cX10_undo 53 = .ok (.aload_n 0, 1) := by decide +kernel
theorem dX10_undo_54 : decode cX10_undo 54 = .ok (.iconst 3, 1) := by decide +kernel
theorem dX10_undo_55 : decode cX10_undo 55 = .ok (.invokevirtual 87, 3) := by decide +kernel
theorem dX10_undo_58 : decode cX10_undo 58 = .ok (.ireturn, 1) := by decide +kernel
theorem dX10_undo_59 : decode cX10_undo 59 = .ok (.aload_n 0, 1) := by decide +kernel
theorem dX10_undo_60 : decode cX10_undo 60 = .ok (.getfield 16, 3) := by decide +kernel
theorem dX10_undo_63 : decode cX10_undo 63 = .ok (.getfield 91, 3) := by decide +kernel
theorem dX10_undo_66 : decode cX10_undo 66 = .ok (.aload_n 0, 1) := by decide +kernel
theorem dX10_undo_67 : decode cX10_undo 67 = .ok (.getfield 43, 3) := by decide +kernel
theorem dX10_undo_70 : decode cX10_undo 70 = .ok (.invokevirtual 154, 3) := by decide +kernel
theorem dX10_undo_73 : decode cX10_undo 73 = .ok (.iload_n 2, 1) := by decide +kernel
theorem dX10_undo_74 : decode cX10_undo 74 = .ok (.ireturn, 1) := by decide +kernel
theorem dX10_feed_0 : decode cX10_feed 0 = .ok (.iload_n 3, 1) := by decide +kernel
theorem dX10_feed_1 : decode cX10_feed 1 = .ok (.iconst 1, 1) := by decide +kernel
theorem dX10_feed_2 : decode cX10_feed 2 = .ok (.bipush 8, 2) := by decide +kernel
theorem dX10_feed_4 : decode cX10_feed 4 = .ok (.invokestatic 83, 3) := by decide +kernel
theorem dX10_feed_7 : decode cX10_feed 7 = .ok (.ifCond .ne 9, 3) := by decide +kernel
theorem dX10_feed_10 : decode cX10_feed 10 = .ok (.aload_n 0, 1) := by decide +kernel
theorem dX10_feed_11 : decode cX10_feed 11 = .ok (.iconst 1, 1) := by decide +kernel
theorem dX10_feed_12 : decode cX10_feed 12 = .ok (.invokevirtual 87, 3) := by decide +kernel
theorem dX10_feed_15 : decode cX10_feed 15 = .ok (.ireturn, 1) := by decide +kernel
theorem dX10_feed_16 : decode cX10_feed 16 = .ok (.aload_n 0, 1) := by decide +kernel
theorem dX10_feed_17 : decode cX10_feed 17 = .ok (.getfield 16, 3) := by decide +kernel
theorem dX10_feed_20 : decode cX10_feed 20 = .ok (.lload_n 1, 1) := by decide +kernel
theorem dX10_feed_21 : decode cX10_feed 21 = .ok (.iload_n 3, 1) := by decide +kernel
theorem dX10_feed_22 : decode cX10_feed 22 = .ok (.invokevirtual 180, 3) := by decide +kernel
theorem dX10_feed_25 : decode cX10_feed 25 = .ok (.ifCond .eq 13, 3) := by decide +kernel
theorem dX10_feed_28 : decode cX10_feed 28 = .ok (.aload_n 0, 1) := by decide +kernel
theorem dX10_feed_29 : decode cX10_feed 29 = .ok (.getfield 16, 3) := by decide +kernel
theorem dX10_feed_32 : decode cX10_feed 32 = .ok (.getfield 184, 3) := by decide +kernel
theorem dX10_feed_35 : decode cX10_feed 35 = .ok (.goto 8, 3) := by decide +kernel
theorem dX10_feed_38 : decode cX10_feed 38 = .ok (.aload_n 0, 1) := by decide +kernel
theorem dX10_feed_39 : decode cX10_feed 39 = .ok (.iconst 4, 1) := by decide +kernel
theorem dX10_feed_40 : decode cX10_feed 40 = .ok (.invokevirtual 87, 3) := by decide +kernel
theorem dX10_feed_43 : decode cX10_feed 43 = .ok (.ireturn, 1) := by decide +kernel
theorem dX10_text_0 : decode cX10_text 0 = .ok (.iload_n 1, 1) := by decide +kernel
theorem dX10_text_1 : decode cX10_text 1 = .ok (.iconst 0, 1) := by decide +kernel
theorem dX10_text_2 : decode cX10_text 2 = .ok (.iconst 1, 1) := by decide +kernel
theorem dX10_text_3 : decode cX10_text 3 = .ok (.invokestatic 83, 3) := by decide +kernel
theorem dX10_text_6 : decode cX10_text 6 = .ok (.ifCond .ne 9, 3) := by decide +kernel
theorem dX10_text_9 : decode cX10_text 9 = .ok (.aload_n 0, 1) := by decide +kernel
theorem dX10_text_10 : decode cX10_text 10 = .ok (.iconst 1, 1) := by decide +kernel
theorem dX10_text_11 : decode cX10_text 11 = .ok (.invokevirtual 87, 3) := by decide +kernel
theorem dX10_text_14 : decode cX10_text 14 = .ok (.ireturn, 1) := by decide +kernel
theorem dX10_text_15 : decode cX10_text 15 = .ok (.aload_n 0, 1) := by decide +kernel
theorem dX10_text_16 : decode cX10_text 16 = .ok (.getfield 50, 3) := by decide +kernel
theorem dX10_text_19 : decode cX10_text 19 = .ok (.aload_n 0, 1) := by decide +kernel
theorem dX10_text_20 : decode cX10_text 20 = .ok (.getfield 16, 3) := by decide +kernel
theorem dX10_text_23 : decode cX10_text 23 = .ok (.getfield 187, 3) := by decide +kernel
theorem dX10_text_26 : decode cX10_text 26 = .ok (.aload_n 0, 1) := by decide +kernel
theorem dX10_text_27 : decode cX10_text 27 = .ok (.getfield 16, 3) := by decide +kernel
theorem dX10_text_30 : decode cX10_text 30 = .ok (.getfield 184, 3) := by decide +kernel
theorem dX10_text_33 : decode cX10_text 33 = .ok (.iload_n 1, 1) := by decide +kernel
theorem dX10_text_34 : decode cX10_text 34 = .ok (.invokevirtual 190, 3) := by decide +kernel
theorem dX10_text_37 : decode cX10_text 37 = .ok (.istore_n 2, 1) := by decide +kernel
theorem dX10_text_38 : decode cX10_text 38 = .ok (.aload_n 0, 1) := by decide +kernel
theorem dX10_text_39 : decode cX10_text 39 = .ok (.getfield 16, 3) := by decide +kernel
theorem dX10_text_42 : decode cX10_text 42 = .ok (.iconst 0, 1) := by decide +kernel
theorem dX10_text_43 : decode cX10_text 43 = .ok (.putfield 184, 3) := by decide +kernel
theorem dX10_text_46 : decode cX10_text 46 = .ok (.iload_n 2, 1) := by decide +kernel
theorem dX10_text_47 : decode cX10_text 47 = .ok (.iconst (-1), 1) := by decide +kernel
theorem dX10_text_48 : decode cX10_text 48 = .ok (.if_icmp .eq 8, 3) := by decide +kernel
theorem dX10_text_51 : decode cX10_text 51 = .ok (.bipush (-10), 2) := by decide +kernel
theorem dX10_text_53 : decode cX10_text 53 = .ok (.iload_n 2, 1) := by decide +kernel
theorem dX10_text_54 : decode cX10_text 54 = .ok (.isub, 1) := by decide +kernel
theorem dX10_text_55 : decode cX10_text 55 = .ok (.ireturn, 1) := by decide +kernel
theorem dX10_text_56 : decode cX10_text 56 = .ok (.aload_n 0, 1) := by decide +kernel
theorem dX10_text_57 : decode cX10_text 57 = .ok (.getfield 16, 3) := by decide +kernel
theorem dX10_text_60 : decode cX10_text 60 = .ok (.iload_n 1, 1) := by decide +kernel
theorem dX10_text_61 : decode cX10_text 61 = .ok (.invokevirtual 194, 3) := by decide +kernel
theorem dX10_text_64 : decode cX10_text 64 = .ok (.aload_n 0, 1) := by decide +kernel
theorem dX10_text_65 : decode cX10_text 65 = .ok (.getfield 50, 3) := by decide +kernel
theorem dX10_text_68 : decode cX10_text 68 = .ok (.getfield 198, 3) := by decide +kernel
theorem dX10_text_71 : decode cX10_text 71 = .ok (.aload_n 0, 1) := by decide +kernel
theorem dX10_text_72 : decode cX10_text 72 = .ok (.getfield 50, 3) := by decide +kernel
theorem dX10_text_75 : decode cX10_text 75 = .ok (.getfield 201, 3) := by decide +kernel
theorem dX10_text_78 : decode cX10_text 78 = .ok (.invokevirtual 204, 3) := by decide +kernel
theorem dX10_text_81 : decode cX10_text 81 = .ok (.iconst 1, 1) := by decide +kernel
theorem dX10_text_82 : decode cX10_text 82 = .ok (.ireturn, 1) := by decide +kernel
theorem dX10_law_0 : decode cX10_law 0 = .ok (.iload_n 1, 1) := by decide +kernel
theorem dX10_law_1 : decode cX10_law 1 = .ok (.iconst 0, 1) := by decide +kernel
theorem dX10_law_2 : decode cX10_law 2 = .ok (.iconst 1, 1) := by decide +kernel
theorem dX10_law_3 : decode cX10_law 3 = .ok (.invokestatic 83, 3) := by decide +kernel
theorem dX10_law_6 : decode cX10_law 6 = .ok (.ifCond .eq 21, 3) := by decide +kernel
theorem dX10_law_9 : decode cX10_law 9 = .ok (.aload_n 0, 1) := by decide +kernel
theorem dX10_law_10 : decode cX10_law 10 = .ok (.getfield 16, 3) := by decide +kernel
theorem dX10_law_13 : decode cX10_law 13 = .ok (.iload_n 1, 1) := by decide +kernel
theorem dX10_law_14 : decode cX10_law 14 = .ok (.invokevirtual 194, 3) := by decide +kernel
theorem dX10_law_17 : decode cX10_law 17 = .ok (.iload_n 2, 1) := by decide +kernel
theorem dX10_law_18 : decode cX10_law 18 = .ok (.iload_n 3, 1) := by decide +kernel
theorem dX10_law_19 : decode cX10_law 19 = .ok (.iload 4, 2) := by decide +kernel
theorem dX10_law_21 : decode cX10_law 21 = .ok (.invokevirtual 210, 3) := by decide +kernel
theorem dX10_law_24 : decode cX10_law 24 = .ok (.goto 8, 3) := by decide +kernel
theorem dX10_law_27 : decode cX10_law 27 = .ok (.aload_n 0, 1) := by decide +kernel
theorem dX10_law_28 : decode cX10_law 28 = .ok (.iconst 1, 1) := by decide +kernel
theorem dX10_law_29 : decode cX10_law 29 = .ok (.invokevirtual 87, 3) := by decide +kernel
theorem dX10_law_32 : decode cX10_law 32 = .ok (.ireturn, 1) := by decide +kernel
theorem dX10_round_0 : decode cX10_round 0 = .ok (.aload_n 0, 1) := by decide +kernel
theorem dX10_round_1 : decode cX10_round 1 = .ok (.getfield 16, 3) := by decide +kernel
theorem dX10_round_4 : decode cX10_round 4 = .ok (.getfield 91, 3) := by decide +kernel
theorem dX10_round_7 : decode cX10_round 7 = .ok (.iload_n 1, 1) := by decide +kernel
theorem dX10_round_8 : decode cX10_round 8 = .ok (.invokevirtual 147, 3) := by decide +kernel
theorem dX10_round_11 : decode cX10_round 11 = .ok (.ifCond .ne 9, 3) := by decide +kernel
theorem dX10_round_14 : decode cX10_round 14 = .ok (.aload_n 0, 1) := by decide +kernel
theorem dX10_round_15 : decode cX10_round 15 = .ok (.iconst 1, 1) := by decide +kernel
theorem dX10_round_16 : decode cX10_round 16 = .ok (.invokevirtual 87, 3) := by decide +kernel
theorem dX10_round_19 : decode cX10_round 19 = .ok (.ireturn, 1) := by decide +kernel
theorem dX10_round_20 : decode cX10_round 20 = .ok (.aload_n 0, 1) := by decide +kernel
theorem dX10_round_21 : decode cX10_round 21 = .ok (.getfield 64, 3) := by decide +kernel
theorem dX10_round_24 : decode cX10_round 24 = .ok (.aload_n 0, 1) := by decide +kernel
theorem dX10_round_25 : decode cX10_round 25 = .ok (.getfield 16, 3) := by decide +kernel
theorem dX10_round_28 : decode cX10_round 28 = .ok (.getfield 91, 3) := by decide +kernel
theorem dX10_round_31 : decode cX10_round 31 = .ok (.iload_n 1, 1) := by decide +kernel
theorem dX10_round_32 : decode cX10_round 32 = .ok (.invokevirtual 214, 3) := by decide +kernel
theorem dX10_round_35 : decode cX10_round 35 = .ok (.istore_n 2, 1) := by decide +kernel
theorem dX10_round_36 : decode cX10_round 36 = .ok (.iload_n 2, 1) := by decide +kernel
theorem dX10_round_37 : decode cX10_round 37 = .ok (.iconst 1, 1) := by decide +kernel
theorem dX10_round_38 : decode cX10_round 38 = .ok (.if_icmp .ge 11, 3) := by decide +kernel
theorem dX10_round_41 : decode cX10_round 41 = .ok (.aload_n 0, 1) := by decide +kernel
theorem dX10_round_42 : decode cX10_round 42 = .ok (.iconst 2, 1) := by decide +kernel
theorem dX10_round_43 : decode cX10_round 43 = .ok (.invokevirtual 87, 3) := by decide +kernel
theorem dX10_round_46 : decode cX10_round 46 = .ok (.goto 4, 3) := by decide +kernel
theorem dX10_round_49 : decode cX10_round 49 = .ok (.iload_n 2, 1) := by decide +kernel
theorem dX10_round_50 : decode cX10_round 50 = .ok (.ireturn, 1) := by decide +kernel
theorem dX10_back_0 : decode cX10_back 0 = .ok (.iload_n 1, 1) := by decide +kernel
theorem dX10_back_1 : decode cX10_back 1 = .ok (.iconst (-1), 1) := by decide +kernel
theorem dX10_back_2 : decode cX10_back 2 = .ok (.iconst 2, 1) := by decide +kernel
theorem dX10_back_3 : decode cX10_back 3 = .ok (.invokestatic 83, 3) := by decide +kernel
theorem dX10_back_6 : decode cX10_back 6 = .ok (.ifCond .ne 9, 3) := by decide +kernel
theorem dX10_back_9 : decode cX10_back 9 = .ok (.aload_n 0, 1) := by decide +kernel
theorem dX10_back_10 : decode cX10_back 10 = .ok (.iconst 1, 1) := by decide +kernel
theorem dX10_back_11 : decode cX10_back 11 = .ok (.invokevirtual 87, 3) := by decide +kernel
theorem dX10_back_14 : decode cX10_back 14 = .ok (.ireturn, 1) := by decide +kernel
theorem dX10_back_15 : decode cX10_back 15 = .ok (.aload_n 0, 1) := by decide +kernel
theorem dX10_back_16 : decode cX10_back 16 = .ok (.getfield 23, 3) := by decide +kernel
theorem dX10_back_19 : decode cX10_back 19 = .ok (.ifCond .eq 23, 3) := by decide +kernel
theorem dX10_back_22 : decode cX10_back 22 = .ok (.aload_n 0, 1) := by decide +kernel
theorem dX10_back_23 : decode cX10_back 23 = .ok (.getfield 16, 3) := by decide +kernel
theorem dX10_back_26 : decode cX10_back 26 = .ok (.getfield 91, 3) := by decide +kernel
theorem dX10_back_29 : decode cX10_back 29 = .ok (.aload_n 0, 1) := by decide +kernel
theorem dX10_back_30 : decode cX10_back 30 = .ok (.getfield 20, 3) := by decide +kernel
theorem dX10_back_33 : decode cX10_back 33 = .ok (.getfield 91, 3) := by decide +kernel
theorem dX10_back_36 : decode cX10_back 36 = .ok (.invokevirtual 217, 3) := by decide +kernel
theorem dX10_back_39 : decode cX10_back 39 = .ok (.ifCond .ne 9, 3) := by decide +kernel
theorem dX10_back_42 : decode cX10_back 42 = .ok (.aload_n 0, 1) := by decide +kernel
theorem dX10_back_43 : decode cX10_back 43 = .ok (.iconst 3, 1) := by decide +kernel
theorem dX10_back_44 : decode cX10_back 44 = .ok (.invokevirtual 87, 3) := by decide +kernel
theorem dX10_back_47 : decode cX10_back 47 = .ok (.ireturn, 1) := by decide +kernel
theorem dX10_back_48 : decode cX10_back 48 = .ok (.aload_n 0, 1) := by decide +kernel
theorem dX10_back_49 : decode cX10_back 49 = .ok (.getfield 64, 3) := by decide +kernel
theorem dX10_back_52 : decode cX10_back 52 = .ok (.aload_n 0, 1) := by decide +kernel
theorem dX10_back_53 : decode cX10_back 53 = .ok (.getfield 16, 3) := by decide +kernel
theorem dX10_back_56 : decode cX10_back 56 = .ok (.getfield 91, 3) := by decide +kernel
theorem dX10_back_59 : decode cX10_back 59 = .ok (.aload_n 0, 1) := by decide +kernel
theorem dX10_back_60 : decode cX10_back 60 = .ok (.getfield 20, 3) := by decide +kernel
theorem dX10_back_63 : decode cX10_back 63 = .ok (.getfield 91, 3) := by decide +kernel
theorem dX10_back_66 : decode cX10_back 66 = .ok (.invokevirtual 221, 3) := by decide +kernel
theorem dX10_back_69 : decode cX10_back 69 = .ok (.istore_n 2, 1) := by decide +kernel
theorem dX10_back_70 : decode cX10_back 70 = .ok (.iload_n 2, 1) := by decide +kernel
theorem dX10_back_71 : decode cX10_back 71 = .ok (.ifCond .lt 8, 3) := by decide +kernel
theorem dX10_back_74 : decode cX10_back 74 = .ok (.iload_n 1, 1) := by decide +kernel
theorem dX10_back_75 : decode cX10_back 75 = .ok (.iload_n 2, 1) := by decide +kernel
theorem dX10_back_76 : decode cX10_back 76 = .ok (.if_icmp .lt 9, 3) := by decide +kernel
theorem dX10_back_79 : decode cX10_back 79 = .ok (.aload_n 0, 1) := by decide +kernel
theorem dX10_back_80 : decode cX10_back 80 = .ok (.iconst 2, 1) := by decide +kernel
theorem dX10_back_81 : decode cX10_back 81 = .ok (.invokevirtual 87, 3) := by decide +kernel
theorem dX10_back_84 : decode cX10_back 84 = .ok (.ireturn, 1) := by decide +kernel
theorem dX10_back_85 : decode cX10_back 85 = .ok (.iload_n 1, 1) := by decide +kernel
theorem dX10_back_86 : decode cX10_back 86 = .ok (.ifCond .ge 7, 3) := by decide +kernel
theorem dX10_back_89 : decode cX10_back 89 = .ok (.iload_n 2, 1) := by decide +kernel
theorem dX10_back_90 : decode cX10_back 90 = .ok (.goto 12, 3) := by decide +kernel
theorem dX10_back_93 : decode cX10_back 93 = .ok (.aload_n 0, 1) := by decide +kernel
theorem dX10_back_94 : decode cX10_back 94 = .ok (.getfield 64, 3) := by decide +kernel
theorem dX10_back_97 : decode cX10_back 97 = .ok (.getfield 225, 3) := by decide +kernel
theorem dX10_back_100 : decode cX10_back 100 = .ok (.iload_n 1, 1) := by decide +kernel
theorem dX10_back_101 : decode cX10_back 101 = .ok (.iaload, 1) := by decide +kernel
theorem dX10_back_102 : decode cX10_back 102 = .ok (.ireturn, 1) := by decide +kernel
theorem dX10_throne_0 : decode cX10_throne 0 = .ok (.aload_n 0, 1) := by decide +kernel
theorem dX10_throne_1 : decode cX10_throne 1 = .ok (.getfield 16, 3) := by decide +kernel
theorem dX10_throne_4 : decode cX10_throne 4 = .ok (.getfield 91, 3) := by decide +kernel
theorem dX10_throne_7 : decode cX10_throne 7 = .ok (.iload_n 1, 1) := by decide +kernel
theorem dX10_throne_8 : decode cX10_throne 8 = .ok (.invokevirtual 102, 3) := by decide +kernel
theorem dX10_throne_11 : decode cX10_throne 11 = .ok (.ifCond .eq 26, 3) := by decide +kernel
theorem dX10_throne_14 : decode cX10_throne 14 = .ok (.aload_n 0, 1) := by decide +kernel
theorem dX10_throne_15 : decode cX10_throne 15 = .ok (.getfield 16, 3) := by decide +kernel
theorem dX10_throne_18 : decode cX10_throne 18 = .ok (.getfield 91, 3) := by decide +kernel
theorem dX10_throne_21 : decode cX10_throne 21 = .ok (.iload_n 2, 1) := by decide +kernel
theorem dX10_throne_22 : decode cX10_throne 22 = .ok (.invokevirtual 147, 3) := by decide +kernel
theorem dX10_throne_25 : decode cX10_throne 25 = .ok (.ifCond .eq 12, 3) := by decide +kernel
theorem dX10_throne_28 : decode cX10_throne 28 = .ok (.iload_n 3, 1) := by decide +kernel
theorem dX10_throne_29 : decode cX10_throne 29 = .ok (.iconst 0, 1) := by decide +kernel
theorem dX10_throne_30 : decode cX10_throne 30 = .ok (.iconst 2, 1) := by decide +kernel
theorem dX10_throne_31 : decode cX10_throne 31 = .ok (.invokestatic 83, 3) := by decide +kernel
theorem dX10_throne_34 : decode cX10_throne 34 = .ok (.ifCond .ne 9, 3) := by decide +kernel
theorem dX10_throne_37 : decode cX10_throne 37 = .ok (.aload_n 0, 1) := by decide +kernel
theorem dX10_throne_38 : decode cX10_throne 38 = .ok (.iconst 1, 1) := by decide +kernel
theorem dX10_throne_39 : decode cX10_throne 39 = .ok (.invokevirtual 87, 3) := by decide +kernel
theorem dX10_throne_42 : decode cX10_throne 42 = .ok (.ireturn, 1) := by decide +kernel
theorem dX10_throne_43 : decode cX10_throne 43 = .ok (.aload_n 0, 1) := by decide +kernel
theorem dX10_throne_44 : decode cX10_throne 44 = .ok (.getfield 71, 3) := by decide +kernel
theorem dX10_throne_47 : decode cX10_throne 47 = .ok (.aload_n 0, 1) := by decide +kernel
theorem dX10_throne_48 : decode cX10_throne 48 = .ok (.getfield 16, 3) := by decide +kernel
theorem dX10_throne_51 : decode cX10_throne 51 = .ok (.iload_n 1, 1) := by decide +kernel
theorem dX10_throne_52 : decode cX10_throne 52 = .ok (.iload_n 2, 1) := by decide +kernel
theorem dX10_throne_53 : decode cX10_throne 53 = .ok (.invokevirtual 228, 3) := by decide +kernel
theorem dX10_throne_56 : decode cX10_throne 56 = .ok (.ifCond .ne 9, 3) := by decide +kernel
theorem dX10_throne_59 : decode cX10_throne 59 = .ok (.aload_n 0, 1) := by decide +kernel
theorem dX10_throne_60 : decode cX10_throne 60 = .ok (.iconst 2, 1) := by decide +kernel
theorem dX10_throne_61 : decode cX10_throne 61 = .ok (.invokevirtual 87, 3) := by decide +kernel
theorem dX10_throne_64 : decode cX10_throne 64 = .ok (.ireturn, 1) := by decide +kernel
theorem dX10_throne_65 : decode cX10_throne 65 = .ok (.iload_n 3, 1) := by decide +kernel
theorem dX10_throne_66 : decode cX10_throne 66 = .ok (.ifCond .ne 13, 3) := by decide +kernel
theorem dX10_throne_69 : decode cX10_throne 69 = .ok (.aload_n 0, 1) := by decide +kernel
theorem dX10_throne_70 : decode cX10_throne 70 = .ok (.getfield 71, 3) := by decide +kernel
theorem dX10_throne_73 : decode cX10_throne 73 = .ok (.getfield 232, 3) := by decide +kernel
theorem dX10_throne_76 : decode cX10_throne 76 = .ok (.goto 25, 3) := by decide +kernel
theorem dX10_throne_79 : decode cX10_throne 79 = .ok (.iload_n 3, 1) := by decide +kernel
theorem dX10_throne_80 : decode cX10_throne 80 = .ok (.iconst 1, 1) := by decide +kernel
theorem dX10_throne_81 : decode cX10_throne 81 = .ok (.if_icmp .ne 13, 3) := by decide +kernel
theorem dX10_throne_84 : decode cX10_throne 84 = .ok (.aload_n 0, 1) := by decide +kernel
theorem dX10_throne_85 : decode cX10_throne 85 = .ok (.getfield 71, 3) := by decide +kernel
theorem dX10_throne_88 : decode cX10_throne 88 = .ok (.getfield 235, 3) := by decide +kernel
theorem dX10_throne_91 : decode cX10_throne 91 = .ok (.goto 10, 3) := by decide +kernel
theorem dX10_throne_94 : decode cX10_throne 94 = .ok (.aload_n 0, 1) := by decide +kernel
theorem dX10_throne_95 : decode cX10_throne 95 = .ok (.getfield 71, 3) := by decide +kernel
theorem dX10_throne_98 : decode cX10_throne 98 = .ok (.getfield 238, 3) := by decide +kernel
theorem dX10_throne_101 : decode cX10_throne 101 = .ok (.ireturn, 1) := by decide +kernel
theorem dX10_had_0 : decode cX10_had 0 = .ok (.aload_n 0, 1) := by decide +kernel
theorem dX10_had_1 : decode cX10_had 1 = .ok (.getfield 64, 3) := by decide +kernel
theorem dX10_had_4 : decode cX10_had 4 = .ok (.aload_n 0, 1) := by decide +kernel
theorem dX10_had_5 : decode cX10_had 5 = .ok (.getfield 16, 3) := by decide +kernel
theorem dX10_had_8 : decode cX10_had 8 = .ok (.getfield 91, 3) := by decide +kernel
theorem dX10_had_11 : decode cX10_had 11 = .ok (.invokevirtual 241, 3) := by decide +kernel
theorem dX10_had_14 : decode cX10_had 14 = .ok (.istore_n 1, 1) := by decide +kernel
theorem dX10_had_15 : decode cX10_had 15 = .ok (.iload_n 1, 1) := by decide +kernel
theorem dX10_had_16 : decode cX10_had 16 = .ok (.sipush 200, 3) := by decide +kernel
theorem dX10_had_19 : decode cX10_had 19 = .ok (.if_icmp .le 11, 3) := by decide +kernel
theorem dX10_had_22 : decode cX10_had 22 = .ok (.aload_n 0, 1) := by decide +kernel
theorem dX10_had_23 : decode cX10_had 23 = .ok (.iconst 4, 1) := by decide +kernel
theorem dX10_had_24 : decode cX10_had 24 = .ok (.invokevirtual 87, 3) := by decide +kernel
theorem dX10_had_27 : decode cX10_had 27 = .ok (.goto 4, 3) := by decide +kernel
theorem dX10_had_30 : decode cX10_had 30 = .ok (.iload_n 1, 1) := by decide +kernel
theorem dX10_had_31 : decode cX10_had 31 = .ok (.ireturn, 1) := by decide +kernel
theorem dX10_odds_0 : decode cX10_odds 0 = .ok (.aload_n 0, 1) := by decide +kernel
theorem dX10_odds_1 : decode cX10_odds 1 = .ok (.getfield 16, 3) := by decide +kernel
theorem dX10_odds_4 : decode cX10_odds 4 = .ok (.getfield 91, 3) := by decide +kernel
theorem dX10_odds_7 : decode cX10_odds 7 = .ok (.astore 5, 2) := by decide +kernel
theorem dX10_odds_9 : decode cX10_odds 9 = .ok (.aload 5, 2) := by decide +kernel
theorem dX10_odds_11 : decode cX10_odds 11 = .ok (.iload_n 3, 1) := by decide +kernel
theorem dX10_odds_12 : decode cX10_odds 12 = .ok (.invokevirtual 147, 3) := by decide +kernel
theorem dX10_odds_15 : decode cX10_odds 15 = .ok (.ifCond .ne 9, 3) := by decide +kernel
theorem dX10_odds_18 : decode cX10_odds 18 = .ok (.iload_n 3, 1) := by decide +kernel
theorem dX10_odds_19 : decode cX10_odds 19 = .ok (.bipush 100, 2) := by decide +kernel
theorem dX10_odds_21 : decode cX10_odds 21 = .ok (.if_icmp .ne 7, 3) := by decide +kernel
theorem dX10_odds_24 : decode cX10_odds 24 = .ok (.iconst 1, 1) := by decide +kernel
theorem dX10_odds_25 : decode cX10_odds 25 = .ok (.goto 4, 3) := by decide +kernel
theorem dX10_odds_28 : decode cX10_odds 28 = .ok (.iconst 0, 1) := by decide +kernel
theorem dX10_odds_29 : decode cX10_odds 29 = .ok (.istore 6, 2) := by decide +kernel
theorem dX10_odds_31 : decode cX10_odds 31 = .ok (.aload 5, 2) := by decide +kernel
theorem dX10_odds_33 : decode cX10_odds 33 = .ok (.iload_n 1, 1) := by decide +kernel
theorem dX10_odds_34 : decode cX10_odds 34 = .ok (.invokevirtual 245, 3) := by decide +kernel
theorem dX10_odds_37 : decode cX10_odds 37 = .ok (.ifCond .eq 27, 3) := by decide +kernel
theorem dX10_odds_40 : decode cX10_odds 40 = .ok (.aload 5, 2) := by decide +kernel
theorem dX10_odds_42 : decode cX10_odds 42 = .ok (.iload_n 2, 1) := by decide +kernel
theorem dX10_odds_43 : decode cX10_odds 43 = .ok (.invokevirtual 147, 3) := by decide +kernel
theorem dX10_odds_46 : decode cX10_odds 46 = .ok (.ifCond .eq 18, 3) := by decide +kernel
theorem dX10_odds_49 : decode cX10_odds 49 = .ok (.iload 6, 2) := by decide +kernel
theorem dX10_odds_51 : decode cX10_odds 51 = .ok (.ifCond .eq 13, 3) := by decide +kernel
theorem dX10_odds_54 : decode cX10_odds 54 = .ok (.iload 4, 2) := by decide +kernel
theorem dX10_odds_56 : decode cX10_odds 56 = .ok (.iconst 0, 1) := by decide +kernel
theorem dX10_odds_57 : decode cX10_odds 57 = .ok (.iconst 1, 1) := by decide +kernel
theorem dX10_odds_58 : decode cX10_odds 58 = .ok (.invokestatic 83, 3) := by decide +kernel
theorem dX10_odds_61 : decode cX10_odds 61 = .ok (.ifCond .ne 10, 3) := by decide +kernel
theorem dX10_odds_64 : decode cX10_odds 64 = .ok (.aload_n 0, 1) := by decide +kernel
theorem dX10_odds_65 : decode cX10_odds 65 = .ok (.iconst 1, 1) := by decide +kernel
theorem dX10_odds_66 : decode cX10_odds 66 = .ok (.invokevirtual 87, 3) := by decide +kernel
theorem dX10_odds_69 : decode cX10_odds 69 = .ok (.i2l, 1) := by decide +kernel
theorem dX10_odds_70 : decode cX10_odds 70 = .ok (.lreturn, 1) := by decide +kernel
theorem dX10_odds_71 : decode cX10_odds 71 = .ok (.aload_n 0, 1) := by decide +kernel
theorem dX10_odds_72 : decode cX10_odds 72 = .ok (.getfield 78, 3) := by decide +kernel
theorem dX10_odds_75 : decode cX10_odds 75 = .ok (.aload 5, 2) := by decide +kernel
theorem dX10_odds_77 : decode cX10_odds 77 = .ok (.iload_n 1, 1) := by decide +kernel
theorem dX10_odds_78 : decode cX10_odds 78 = .ok (.invokevirtual 248, 3) := by decide +kernel
theorem dX10_odds_81 : decode cX10_odds 81 = .ok (.aload_n 0, 1) := by decide +kernel
theorem dX10_odds_82 : decode cX10_odds 82 = .ok (.getfield 78, 3) := by decide +kernel
theorem dX10_odds_85 : decode cX10_odds 85 = .ok (.iload_n 2, 1) := by decide +kernel
theorem dX10_odds_86 : decode cX10_odds 86 = .ok (.iload_n 3, 1) := by decide +kernel
theorem dX10_odds_87 : decode cX10_odds 87 = .ok (.invokevirtual 252, 3) := by decide +kernel
theorem dX10_odds_90 : decode cX10_odds 90 = .ok (.iload 4, 2) := by decide +kernel
theorem dX10_odds_92 : decode cX10_odds 92 = .ok (.ifCond .ne 14, 3) := by decide +kernel
theorem dX10_odds_95 : decode cX10_odds 95 = .ok (.aload_n 0, 1) := by decide +kernel
theorem dX10_odds_96 : decode cX10_odds 96 = .ok (.getfield 78, 3) := by decide +kernel
theorem dX10_odds_99 : decode cX10_odds 99 = .ok (.getfield 255, 3) := by decide +kernel
theorem dX10_odds_102 : decode cX10_odds 102 = .ok (.i2l, 1) := by decide +kernel
theorem dX10_odds_103 : decode cX10_odds 103 = .ok (.goto 11, 3) := by decide +kernel
theorem dX10_odds_106 : decode cX10_odds 106 = .ok (.aload_n 0, 1) := by decide +kernel
theorem dX10_odds_107 : decode cX10_odds 107 = .ok (.getfield 78, 3) := by decide +kernel
theorem dX10_odds_110 : decode cX10_odds 110 = .ok (.getfield 258, 3) := by decide +kernel
theorem dX10_odds_113 : decode cX10_odds 113 = .ok (.i2l, 1) := by decide +kernel
theorem dX10_odds_114 : decode cX10_odds 114 = .ok (.lreturn, 1) := by decide +kernel
theorem dX10_fits_0 : decode cX10_fits 0 = .ok (.aload_n 0, 1) := by decide +kernel
theorem dX10_fits_1 : decode cX10_fits 1 = .ok (.getfield 16, 3) := by decide +kernel
theorem dX10_fits_4 : decode cX10_fits 4 = .ok (.getfield 91, 3) := by decide +kernel
theorem dX10_fits_7 : decode cX10_fits 7 = .ok (.iload_n 1, 1) := by decide +kernel
theorem dX10_fits_8 : decode cX10_fits 8 = .ok (.invokevirtual 245, 3) := by decide +kernel
theorem dX10_fits_11 : decode cX10_fits 11 = .ok (.ifCond .eq 10, 3) := by decide +kernel
theorem dX10_fits_14 : decode cX10_fits 14 = .ok (.iload_n 2, 1) := by decide +kernel
theorem dX10_fits_15 : decode cX10_fits 15 = .ok (.invokestatic 261, 3) := by decide +kernel
theorem dX10_fits_18 : decode cX10_fits 18 = .ok (.ifCond .ne 9, 3) := by decide +kernel
theorem dX10_fits_21 : decode cX10_fits 21 = .ok (.aload_n 0, 1) := by decide +kernel
theorem dX10_fits_22 : decode cX10_fits 22 = .ok (.iconst 1, 1) := by decide +kernel
theorem dX10_fits_23 : decode cX10_fits 23 = .ok (.invokevirtual 87, 3) := by decide +kernel
theorem dX10_fits_26 : decode cX10_fits 26 = .ok (.ireturn, 1) := by decide +kernel
theorem dX10_fits_27 : decode cX10_fits 27 = .ok (.aload_n 0, 1) := by decide +kernel
theorem dX10_fits_28 : decode cX10_fits 28 = .ok (.getfield 29, 3) := by decide +kernel
theorem dX10_fits_31 : decode cX10_fits 31 = .ok (.iload_n 2, 1) := by decide +kernel
theorem dX10_fits_32 : decode cX10_fits 32 = .ok (.aaload, 1) := by decide +kernel
theorem dX10_fits_33 : decode cX10_fits 33 = .ok (.astore_n 3, 1) := by decide +kernel
theorem dX10_fits_34 : decode cX10_fits 34 = .ok (.aload_n 0, 1) := by decide +kernel
theorem dX10_fits_35 : decode cX10_fits 35 = .ok (.getfield 78, 3) := by decide +kernel
theorem dX10_fits_38 : decode cX10_fits 38 = .ok (.aload_n 3, 1) := by decide +kernel
theorem dX10_fits_39 : decode cX10_fits 39 = .ok (.aload_n 0, 1) := by decide +kernel
theorem dX10_fits_40 : decode cX10_fits 40 = .ok (.getfield 16, 3) := by decide +kernel
theorem dX10_fits_43 : decode cX10_fits 43 = .ok (.getfield 91, 3) := by decide +kernel
theorem dX10_fits_46 : decode cX10_fits 46 = .ok (.invokevirtual 264, 3) := by decide +kernel
theorem dX10_fits_49 : decode cX10_fits 49 = .ok (.ifCond .ne 9, 3) := by decide +kernel
theorem dX10_fits_52 : decode cX10_fits 52 = .ok (.aload_n 0, 1) := by decide +kernel
theorem dX10_fits_53 : decode cX10_fits 53 = .ok (.iconst 2, 1) := by decide +kernel
theorem dX10_fits_54 : decode cX10_fits 54 = .ok (.invokevirtual 87, 3) := by decide +kernel
theorem dX10_fits_57 : decode cX10_fits 57 = .ok (.ireturn, 1) := by decide +kernel
theorem dX10_fits_58 : decode cX10_fits 58 = .ok (.aload_n 0, 1) := by decide +kernel
theorem dX10_fits_59 : decode cX10_fits 59 = .ok (.getfield 78, 3) := by decide +kernel
theorem dX10_fits_62 : decode cX10_fits 62 = .ok (.aload_n 0, 1) := by decide +kernel
theorem dX10_fits_63 : decode cX10_fits 63 = .ok (.getfield 16, 3) := by decide +kernel
theorem dX10_fits_66 : decode cX10_fits 66 = .ok (.getfield 91, 3) := by decide +kernel
theorem dX10_fits_69 : decode cX10_fits 69 = .ok (.iload_n 1, 1) := by decide +kernel
theorem dX10_fits_70 : decode cX10_fits 70 = .ok (.invokevirtual 248, 3) := by decide +kernel
theorem dX10_fits_73 : decode cX10_fits 73 = .ok (.aload_n 0, 1) := by decide +kernel
theorem dX10_fits_74 : decode cX10_fits 74 = .ok (.getfield 78, 3) := by decide +kernel
theorem dX10_fits_77 : decode cX10_fits 77 = .ok (.aload_n 3, 1) := by decide +kernel
theorem dX10_fits_78 : decode cX10_fits 78 = .ok (.invokevirtual 268, 3) := by decide +kernel
theorem dX10_fits_81 : decode cX10_fits 81 = .ok (.ireturn, 1) := by decide +kernel
theorem dX10_tells_0 : decode cX10_tells 0 = .ok (.aload_n 0, 1) := by decide +kernel
theorem dX10_tells_1 : decode cX10_tells 1 = .ok (.getfield 16, 3) := by decide +kernel
theorem dX10_tells_4 : decode cX10_tells 4 = .ok (.getfield 91, 3) := by decide +kernel
theorem dX10_tells_7 : decode cX10_tells 7 = .ok (.iload_n 1, 1) := by decide +kernel
theorem dX10_tells_8 : decode cX10_tells 8 = .ok (.invokevirtual 245, 3) := by decide +kernel
theorem dX10_tells_11 : decode cX10_tells 11 = .ok (.ifCond .eq 19, 3) := by decide +kernel
theorem dX10_tells_14 : decode cX10_tells 14 = .ok (.iload_n 2, 1) := by decide +kernel
theorem dX10_tells_15 : decode cX10_tells 15 = .ok (.invokestatic 261, 3) := by decide +kernel
theorem dX10_tells_18 : decode cX10_tells 18 = .ok (.ifCond .eq 12, 3) := by decide +kernel
theorem dX10_tells_21 : decode cX10_tells 21 = .ok (.iload_n 3, 1) := by decide +kernel
theorem dX10_tells_22 : decode cX10_tells 22 = .ok (.iconst 0, 1) := by decide +kernel
theorem dX10_tells_23 : decode cX10_tells 23 = .ok (.iconst 1, 1) := by decide +kernel
theorem dX10_tells_24 : decode cX10_tells 24 = .ok (.invokestatic 83, 3) := by decide +kernel
theorem dX10_tells_27 : decode cX10_tells 27 = .ok (.ifCond .ne 9, 3) := by decide +kernel
theorem dX10_tells_30 : decode cX10_tells 30 = .ok (.aload_n 0, 1) := by decide +kernel
theorem dX10_tells_31 : decode cX10_tells 31 = .ok (.iconst 1, 1) := by decide +kernel
theorem dX10_tells_32 : decode cX10_tells 32 = .ok (.invokevirtual 87, 3) := by decide +kernel
theorem dX10_tells_35 : decode cX10_tells 35 = .ok (.ireturn, 1) := by decide +kernel
theorem dX10_tells_36 : decode cX10_tells 36 = .ok (.aload_n 0, 1) := by decide +kernel
theorem dX10_tells_37 : decode cX10_tells 37 = .ok (.getfield 29, 3) := by decide +kernel
theorem dX10_tells_40 : decode cX10_tells 40 = .ok (.iload_n 2, 1) := by decide +kernel
theorem dX10_tells_41 : decode cX10_tells 41 = .ok (.aaload, 1) := by decide +kernel
theorem dX10_tells_42 : decode cX10_tells 42 = .ok (.astore 4, 2) := by decide +kernel
theorem dX10_tells_44 : decode cX10_tells 44 = .ok (.aload_n 0, 1) := by decide +kernel
theorem dX10_tells_45 : decode cX10_tells 45 = .ok (.getfield 78, 3) := by decide +kernel
theorem dX10_tells_48 : decode cX10_tells 48 = .ok (.aload 4, 2) := by decide +kernel
theorem dX10_tells_50 : decode cX10_tells 50 = .ok (.aload_n 0, 1) := by decide +kernel
theorem dX10_tells_51 : decode cX10_tells 51 = .ok (.getfield 16, 3) := by decide +kernel
theorem dX10_tells_54 : decode cX10_tells 54 = .ok (.getfield 91, 3) := by decide +kernel
theorem dX10_tells_57 : decode cX10_tells 57 = .ok (.invokevirtual 264, 3) := by decide +kernel
theorem dX10_tells_60 : decode cX10_tells 60 = .ok (.ifCond .ne 9, 3) := by decide +kernel
theorem dX10_tells_63 : decode cX10_tells 63 = .ok (.aload_n 0, 1) := by decide +kernel
theorem dX10_tells_64 : decode cX10_tells 64 = .ok (.iconst 2, 1) := by decide +kernel
theorem dX10_tells_65 : decode cX10_tells 65 = .ok (.invokevirtual 87, 3) := by decide +kernel
theorem dX10_tells_68 : decode cX10_tells 68 = .ok (.ireturn, 1) := by decide +kernel
theorem dX10_tells_69 : decode cX10_tells 69 = .ok (.aload_n 0, 1) := by decide +kernel
theorem dX10_tells_70 : decode cX10_tells 70 = .ok (.getfield 78, 3) := by decide +kernel
theorem dX10_tells_73 : decode cX10_tells 73 = .ok (.aload_n 0, 1) := by decide +kernel
theorem dX10_tells_74 : decode cX10_tells 74 = .ok (.getfield 16, 3) := by decide +kernel
theorem dX10_tells_77 : decode cX10_tells 77 = .ok (.getfield 91, 3) := by decide +kernel
theorem dX10_tells_80 : decode cX10_tells 80 = .ok (.iload_n 1, 1) := by decide +kernel
theorem dX10_tells_81 : decode cX10_tells 81 = .ok (.invokevirtual 248, 3) := by decide +kernel
theorem dX10_tells_84 : decode cX10_tells 84 = .ok (.aload_n 0, 1) := by decide +kernel
theorem dX10_tells_85 : decode cX10_tells 85 = .ok (.getfield 78, 3) := by decide +kernel
theorem dX10_tells_88 : decode cX10_tells 88 = .ok (.aload 4, 2) := by decide +kernel
theorem dX10_tells_90 : decode cX10_tells 90 = .ok (.invokevirtual 272, 3) := by decide +kernel
theorem dX10_tells_93 : decode cX10_tells 93 = .ok (.ifCond .ne 9, 3) := by decide +kernel
theorem dX10_tells_96 : decode cX10_tells 96 = .ok (.aload_n 0, 1) := by decide +kernel
theorem dX10_tells_97 : decode cX10_tells 97 = .ok (.iconst 2, 1) := by decide +kernel
theorem dX10_tells_98 : decode cX10_tells 98 = .ok (.invokevirtual 87, 3) := by decide +kernel
theorem dX10_tells_101 : decode cX10_tells 101 = .ok (.ireturn, 1) := by decide +kernel
theorem dX10_tells_102 : decode cX10_tells 102 = .ok (.iload_n 3, 1) := by decide +kernel
theorem dX10_tells_103 : decode cX10_tells 103 = .ok (.ifCond .ne 13, 3) := by decide +kernel
theorem dX10_tells_106 : decode cX10_tells 106 = .ok (.aload_n 0, 1) := by decide +kernel
theorem dX10_tells_107 : decode cX10_tells 107 = .ok (.getfield 78, 3) := by decide +kernel
theorem dX10_tells_110 : decode cX10_tells 110 = .ok (.getfield 276, 3) := by decide +kernel
theorem dX10_tells_113 : decode cX10_tells 113 = .ok (.goto 10, 3) := by decide +kernel
theorem dX10_tells_116 : decode cX10_tells 116 = .ok (.aload_n 0, 1) := by decide +kernel
theorem dX10_tells_117 : decode cX10_tells 117 = .ok (.getfield 78, 3) := by decide +kernel
theorem dX10_tells_120 : decode cX10_tells 120 = .ok (.getfield 279, 3) := by decide +kernel
theorem dX10_tells_123 : decode cX10_tells 123 = .ok (.ireturn, 1) := by decide +kernel
theorem dX10_longest_0 : decode cX10_longest 0 = .ok (.iload_n 1, 1) := by decide +kernel
theorem dX10_longest_1 : decode cX10_longest 1 = .ok (.iconst 0, 1) := by decide +kernel
theorem dX10_longest_2 : decode cX10_longest 2 = .ok (.iconst 1, 1) := by decide +kernel
theorem dX10_longest_3 : decode cX10_longest 3 = .ok (.invokestatic 83, 3) := by decide +kernel
theorem dX10_longest_6 : decode cX10_longest 6 = .ok (.ifCond .ne 9, 3) := by decide +kernel
theorem dX10_longest_9 : decode cX10_longest 9 = .ok (.aload_n 0, 1) := by decide +kernel
theorem dX10_longest_10 : decode cX10_longest 10 = .ok (.iconst 1, 1) := by decide +kernel
theorem dX10_longest_11 : decode cX10_longest 11 = .ok (.invokevirtual 87, 3) := by decide +kernel
theorem dX10_longest_14 : decode cX10_longest 14 = .ok (.ireturn, 1) := by decide +kernel
theorem dX10_longest_15 : decode cX10_longest 15 = .ok (.aload_n 0, 1) := by decide +kernel
theorem dX10_longest_16 : decode cX10_longest 16 = .ok (.getfield 64, 3) := by decide +kernel
theorem dX10_longest_19 : decode cX10_longest 19 = .ok (.aload_n 0, 1) := by decide +kernel
theorem dX10_longest_20 : decode cX10_longest 20 = .ok (.getfield 16, 3) := by decide +kernel
theorem dX10_longest_23 : decode cX10_longest 23 = .ok (.getfield 91, 3) := by decide +kernel
theorem dX10_longest_26 : decode cX10_longest 26 = .ok (.invokevirtual 282, 3) := by decide +kernel
theorem dX10_longest_29 : decode cX10_longest 29 = .ok (.iload_n 1, 1) := by decide +kernel
theorem dX10_longest_30 : decode cX10_longest 30 = .ok (.ifCond .ne 13, 3) := by decide +kernel
theorem dX10_longest_33 : decode cX10_longest 33 = .ok (.aload_n 0, 1) := by decide +kernel
theorem dX10_longest_34 : decode cX10_longest 34 = .ok (.getfield 64, 3) := by decide +kernel
theorem dX10_longest_37 : decode cX10_longest 37 = .ok (.getfield 285, 3) := by decide +kernel
theorem dX10_longest_40 : decode cX10_longest 40 = .ok (.goto 10, 3) := by decide +kernel
theorem dX10_longest_43 : decode cX10_longest 43 = .ok (.aload_n 0, 1) := by decide +kernel
theorem dX10_longest_44 : decode cX10_longest 44 = .ok (.getfield 64, 3) := by decide +kernel
theorem dX10_longest_47 : decode cX10_longest 47 = .ok (.getfield 288, 3) := by decide +kernel
theorem dX10_longest_50 : decode cX10_longest 50 = .ok (.ireturn, 1) := by decide +kernel
theorem dX10_days_0 : decode cX10_days 0 = .ok (.iload_n 1, 1) := by decide +kernel
theorem dX10_days_1 : decode cX10_days 1 = .ok (.iconst 1, 1) := by decide +kernel
theorem dX10_days_2 : decode cX10_days 2 = .ok (.sipush 200, 3) := by decide +kernel
theorem dX10_days_5 : decode cX10_days 5 = .ok (.invokestatic 83, 3) := by decide +kernel
theorem dX10_days_8 : decode cX10_days 8 = .ok (.ifCond .ne 9, 3) := by decide +kernel
theorem dX10_days_11 : decode cX10_days 11 = .ok (.aload_n 0, 1) := by decide +kernel
theorem dX10_days_12 : decode cX10_days 12 = .ok (.iconst 1, 1) := by decide +kernel
theorem dX10_days_13 : decode cX10_days 13 = .ok (.invokevirtual 87, 3) := by decide +kernel
theorem dX10_days_16 : decode cX10_days 16 = .ok (.ireturn, 1) := by decide +kernel
theorem dX10_days_17 : decode cX10_days 17 = .ok (.aload_n 0, 1) := by decide +kernel
theorem dX10_days_18 : decode cX10_days 18 = .ok (.getfield 16, 3) := by decide +kernel
theorem dX10_days_21 : decode cX10_days 21 = .ok (.getfield 291, 3) := by decide +kernel
theorem dX10_days_24 : decode cX10_days 24 = .ok (.iload_n 1, 1) := by decide +kernel
theorem dX10_days_25 : decode cX10_days 25 = .ok (.iadd, 1) := by decide +kernel
theorem dX10_days_26 : decode cX10_days 26 = .ok (.sipush 9999, 3) := by decide +kernel
theorem dX10_days_29 : decode cX10_days 29 = .ok (.if_icmp .le 9, 3) := by decide +kernel
theorem dX10_days_32 : decode cX10_days 32 = .ok (.aload_n 0, 1) := by decide +kernel
theorem dX10_days_33 : decode cX10_days 33 = .ok (.iconst 3, 1) := by decide +kernel
theorem dX10_days_34 : decode cX10_days 34 = .ok (.invokevirtual 87, 3) := by decide +kernel
theorem dX10_days_37 : decode cX10_days 37 = .ok (.ireturn, 1) := by decide +kernel
theorem dX10_days_38 : decode cX10_days 38 = .ok (.iconst 0, 1) := by decide +kernel
theorem dX10_days_39 : decode cX10_days 39 = .ok (.istore_n 2, 1) := by decide +kernel
theorem dX10_days_40 : decode cX10_days 40 = .ok (.iload_n 2, 1) := by decide +kernel
theorem dX10_days_41 : decode cX10_days 41 = .ok (.iload_n 1, 1) := by decide +kernel
theorem dX10_days_42 : decode cX10_days 42 = .ok (.if_icmp .ge 20, 3) := by decide +kernel
theorem dX10_days_45 : decode cX10_days 45 = .ok (.aload_n 0, 1) := by decide +kernel
theorem dX10_days_46 : decode cX10_days 46 = .ok (.getfield 16, 3) := by decide +kernel
theorem dX10_days_49 : decode cX10_days 49 = .ok (.aload_n 0, 1) := by decide +kernel
theorem dX10_days_50 : decode cX10_days 50 = .ok (.getfield 36, 3) := by decide +kernel
theorem dX10_days_53 : decode cX10_days 53 = .ok (.invokevirtual 294, 3) := by decide +kernel
theorem dX10_days_56 : decode cX10_days 56 = .ok (.iinc 2 1, 3) := by decide +kernel
theorem dX10_days_59 : decode cX10_days 59 = .ok (.goto (-19), 3) := by decide +kernel
theorem dX10_days_62 : decode cX10_days 62 = .ok (.aload_n 0, 1) := by decide +kernel
theorem dX10_days_63 : decode cX10_days 63 = .ok (.getfield 16, 3) := by decide +kernel
theorem dX10_days_66 : decode cX10_days 66 = .ok (.getfield 298, 3) := by decide +kernel
theorem dX10_days_69 : decode cX10_days 69 = .ok (.ireturn, 1) := by decide +kernel
theorem dX10_seed_0 : decode cX10_seed 0 = .ok (.aload_n 0, 1) := by decide +kernel
theorem dX10_seed_1 : decode cX10_seed 1 = .ok (.getfield 16, 3) := by decide +kernel
theorem dX10_seed_4 : decode cX10_seed 4 = .ok (.getfield 301, 3) := by decide +kernel
theorem dX10_seed_7 : decode cX10_seed 7 = .ok (.istore_n 2, 1) := by decide +kernel
theorem dX10_seed_8 : decode cX10_seed 8 = .ok (.aload_n 0, 1) := by decide +kernel
theorem dX10_seed_9 : decode cX10_seed 9 = .ok (.getfield 16, 3) := by decide +kernel
theorem dX10_seed_12 : decode cX10_seed 12 = .ok (.iload_n 1, 1) := by decide +kernel
theorem dX10_seed_13 : decode cX10_seed 13 = .ok (.putfield 301, 3) := by decide +kernel
theorem dX10_seed_16 : decode cX10_seed 16 = .ok (.iload_n 2, 1) := by decide +kernel
theorem dX10_seed_17 : decode cX10_seed 17 = .ok (.ireturn, 1) := by decide +kernel
theorem dX10_voice_0 : decode cX10_voice 0 = .ok (.aload_n 0, 1) := by decide +kernel
theorem dX10_voice_1 : decode cX10_voice 1 = .ok (.getfield 16, 3) := by decide +kernel
theorem dX10_voice_4 : decode cX10_voice 4 = .ok (.getfield 91, 3) := by decide +kernel
theorem dX10_voice_7 : decode cX10_voice 7 = .ok (.iload_n 1, 1) := by decide +kernel
theorem dX10_voice_8 : decode cX10_voice 8 = .ok (.invokevirtual 102, 3) := by decide +kernel
theorem dX10_voice_11 : decode cX10_voice 11 = .ok (.ifCond .eq 12, 3) := by decide +kernel
theorem dX10_voice_14 : decode cX10_voice 14 = .ok (.iload_n 2, 1) := by decide +kernel
theorem dX10_voice_15 : decode cX10_voice 15 = .ok (.iconst 0, 1) := by decide +kernel
theorem dX10_voice_16 : decode cX10_voice 16 = .ok (.iconst 3, 1) := by decide +kernel
theorem dX10_voice_17 : decode cX10_voice 17 = .ok (.invokestatic 83, 3) := by decide +kernel
theorem dX10_voice_20 : decode cX10_voice 20 = .ok (.ifCond .ne 9, 3) := by decide +kernel
theorem dX10_voice_23 : decode cX10_voice 23 = .ok (.aload_n 0, 1) := by decide +kernel
theorem dX10_voice_24 : decode cX10_voice 24 = .ok (.iconst 1, 1) := by decide +kernel
theorem dX10_voice_25 : decode cX10_voice 25 = .ok (.invokevirtual 87, 3) := by decide +kernel
theorem dX10_voice_28 : decode cX10_voice 28 = .ok (.ireturn, 1) := by decide +kernel
theorem dX10_voice_29 : decode cX10_voice 29 = .ok (.aload_n 0, 1) := by decide +kernel
theorem dX10_voice_30 : decode cX10_voice 30 = .ok (.getfield 57, 3) := by decide +kernel
theorem dX10_voice_33 : decode cX10_voice 33 = .ok (.aload_n 0, 1) := by decide +kernel
theorem dX10_voice_34 : decode cX10_voice 34 = .ok (.getfield 16, 3) := by decide +kernel
theorem dX10_voice_37 : decode cX10_voice 37 = .ok (.getfield 91, 3) := by decide +kernel
theorem dX10_voice_40 : decode cX10_voice 40 = .ok (.iload_n 1, 1) := by decide +kernel
theorem dX10_voice_41 : decode cX10_voice 41 = .ok (.iload_n 2, 1) := by decide +kernel
theorem dX10_voice_42 : decode cX10_voice 42 = .ok (.iload_n 3, 1) := by decide +kernel
theorem dX10_voice_43 : decode cX10_voice 43 = .ok (.invokevirtual 304, 3) := by decide +kernel
theorem dX10_voice_46 : decode cX10_voice 46 = .ok (.ireturn, 1) := by decide +kernel
theorem dX10_trace_0 : decode cX10_trace 0 = .ok (.iload_n 1, 1) := by decide +kernel
theorem dX10_trace_1 : decode cX10_trace 1 = .ok (.iconst 0, 1) := by decide +kernel
theorem dX10_trace_2 : decode cX10_trace 2 = .ok (.aload_n 0, 1) := by decide +kernel
theorem dX10_trace_3 : decode cX10_trace 3 = .ok (.getfield 57, 3) := by decide +kernel
theorem dX10_trace_6 : decode cX10_trace 6 = .ok (.getfield 308, 3) := by decide +kernel
theorem dX10_trace_9 : decode cX10_trace 9 = .ok (.iconst 1, 1) := by decide +kernel
theorem dX10_trace_10 : decode cX10_trace 10 = .ok (.isub, 1) := by decide +kernel
theorem dX10_trace_11 : decode cX10_trace 11 = .ok (.invokestatic 83, 3) := by decide +kernel
theorem dX10_trace_14 : decode cX10_trace 14 = .ok (.ifCond .eq 15, 3) := by decide +kernel
theorem dX10_trace_17 : decode cX10_trace 17 = .ok (.aload_n 0, 1) := by decide +kernel
theorem dX10_trace_18 : decode cX10_trace 18 = .ok (.getfield 57, 3) := by decide +kernel
theorem dX10_trace_21 : decode cX10_trace 21 = .ok (.getfield 311, 3) := by decide +kernel
theorem dX10_trace_24 : decode cX10_trace 24 = .ok (.iload_n 1, 1) := by decide +kernel
theorem dX10_trace_25 : decode cX10_trace 25 = .ok (.iaload, 1) := by decide +kernel
theorem dX10_trace_26 : decode cX10_trace 26 = .ok (.goto 8, 3) := by decide +kernel
theorem dX10_trace_29 : decode cX10_trace 29 = .ok (.aload_n 0, 1) := by decide +kernel
theorem dX10_trace_30 : decode cX10_trace 30 = .ok (.iconst 2, 1) := by decide +kernel
theorem dX10_trace_31 : decode cX10_trace 31 = .ok (.invokevirtual 87, 3) := by decide +kernel
theorem dX10_trace_34 : decode cX10_trace 34 = .ok (.ireturn, 1) := by decide +kernel
theorem dX10_sheet_0 : decode cX10_sheet 0 = .ok (.iload_n 1, 1) := by decide +kernel
theorem dX10_sheet_1 : decode cX10_sheet 1 = .ok (.invokestatic 261, 3) := by decide +kernel
theorem dX10_sheet_4 : decode cX10_sheet 4 = .ok (.ifCond .eq 10, 3) := by decide +kernel
theorem dX10_sheet_7 : decode cX10_sheet 7 = .ok (.iload_n 2, 1) := by decide +kernel
theorem dX10_sheet_8 : decode cX10_sheet 8 = .ok (.invokestatic 314, 3) := by decide +kernel
theorem dX10_sheet_11 : decode cX10_sheet 11 = .ok (.ifCond .ne 9, 3) := by decide +kernel
theorem dX10_sheet_14 : decode cX10_sheet 14 = .ok (.aload_n 0, 1) := by decide +kernel
theorem dX10_sheet_15 : decode cX10_sheet 15 = .ok (.iconst 1, 1) := by decide +kernel
theorem dX10_sheet_16 : decode cX10_sheet 16 = .ok (.invokevirtual 87, 3) := by decide +kernel
theorem dX10_sheet_19 : decode cX10_sheet 19 = .ok (.ireturn, 1) := by decide +kernel
theorem dX10_sheet_20 : decode cX10_sheet 20 = .ok (.iload_n 2, 1) := by decide +kernel
theorem dX10_sheet_21 : decode cX10_sheet 21 = .ok (.ifCond .ne 14, 3) := by decide +kernel
theorem dX10_sheet_24 : decode cX10_sheet 24 = .ok (.aload_n 0, 1) := by decide +kernel
theorem dX10_sheet_25 : decode cX10_sheet 25 = .ok (.getfield 29, 3) := by decide +kernel
theorem dX10_sheet_28 : decode cX10_sheet 28 = .ok (.iload_n 1, 1) := by decide +kernel
theorem dX10_sheet_29 : decode cX10_sheet 29 = .ok (.aaload, 1) := by decide +kernel
theorem dX10_sheet_30 : decode cX10_sheet 30 = .ok (.invokevirtual 317, 3) := by decide +kernel
theorem dX10_sheet_33 : decode cX10_sheet 33 = .ok (.iconst 1, 1) := by decide +kernel
theorem dX10_sheet_34 : decode cX10_sheet 34 = .ok (.ireturn, 1) := by decide +kernel
theorem dX10_sheet_35 : decode cX10_sheet 35 = .ok (.iload_n 3, 1) := by decide +kernel
theorem dX10_sheet_36 : decode cX10_sheet 36 = .ok (.ifCond .ge 9, 3) := by decide +kernel
theorem dX10_sheet_39 : decode cX10_sheet 39 = .ok (.aload_n 0, 1) := by decide +kernel
theorem dX10_sheet_40 : decode cX10_sheet 40 = .ok (.iconst 3, 1) := by decide +kernel
theorem dX10_sheet_41 : decode cX10_sheet 41 = .ok (.invokevirtual 87, 3) := by decide +kernel
theorem dX10_sheet_44 : decode cX10_sheet 44 = .ok (.ireturn, 1) := by decide +kernel
theorem dX10_sheet_45 : decode cX10_sheet 45 = .ok (.iload_n 3, 1) := by decide +kernel
theorem dX10_sheet_46 : decode cX10_sheet 46 = .ok (.bipush 40, 2) := by decide +kernel
theorem dX10_sheet_48 : decode cX10_sheet 48 = .ok (.if_icmp .le 9, 3) := by decide +kernel
theorem dX10_sheet_51 : decode cX10_sheet 51 = .ok (.aload_n 0, 1) := by decide +kernel
theorem dX10_sheet_52 : decode cX10_sheet 52 = .ok (.iconst 1, 1) := by decide +kernel
theorem dX10_sheet_53 : decode cX10_sheet 53 = .ok (.invokevirtual 87, 3) := by decide +kernel
theorem dX10_sheet_56 : decode cX10_sheet 56 = .ok (.ireturn, 1) := by decide +kernel
theorem dX10_sheet_57 : decode cX10_sheet 57 = .ok (.aload_n 0, 1) := by decide +kernel
theorem dX10_sheet_58 : decode cX10_sheet 58 = .ok (.getfield 29, 3) := by decide +kernel
theorem dX10_sheet_61 : decode cX10_sheet 61 = .ok (.iload_n 1, 1) := by decide +kernel
theorem dX10_sheet_62 : decode cX10_sheet 62 = .ok (.aaload, 1) := by decide +kernel
theorem dX10_sheet_63 : decode cX10_sheet 63 = .ok (.iload_n 2, 1) := by decide +kernel
theorem dX10_sheet_64 : decode cX10_sheet 64 = .ok (.iload_n 3, 1) := by decide +kernel
theorem dX10_sheet_65 : decode cX10_sheet 65 = .ok (.invokevirtual 320, 3) := by decide +kernel
theorem dX10_sheet_68 : decode cX10_sheet 68 = .ok (.iconst 1, 1) := by decide +kernel
theorem dX10_sheet_69 : decode cX10_sheet 69 = .ok (.ireturn, 1) := by decide +kernel
theorem dX10_put_0 : decode cX10_put 0 = .ok (.iload_n 1, 1) := by decide +kernel
theorem dX10_put_1 : decode cX10_put 1 = .ok (.invokestatic 261, 3) := by decide +kernel
theorem dX10_put_4 : decode cX10_put 4 = .ok (.ifCond .ne 9, 3) := by decide +kernel
theorem dX10_put_7 : decode cX10_put 7 = .ok (.aload_n 0, 1) := by decide +kernel
theorem dX10_put_8 : decode cX10_put 8 = .ok (.iconst 1, 1) := by decide +kernel
theorem dX10_put_9 : decode cX10_put 9 = .ok (.invokevirtual 87, 3) := by decide +kernel
theorem dX10_put_12 : decode cX10_put 12 = .ok (.ireturn, 1) := by decide +kernel
theorem dX10_put_13 : decode cX10_put 13 = .ok (.aload_n 0, 1) := by decide +kernel
theorem dX10_put_14 : decode cX10_put 14 = .ok (.getfield 29, 3) := by decide +kernel
theorem dX10_put_17 : decode cX10_put 17 = .ok (.iload_n 1, 1) := by decide +kernel
theorem dX10_put_18 : decode cX10_put 18 = .ok (.aaload, 1) := by decide +kernel
theorem dX10_put_19 : decode cX10_put 19 = .ok (.astore 4, 2) := by decide +kernel
theorem dX10_put_21 : decode cX10_put 21 = .ok (.aload 4, 2) := by decide +kernel
theorem dX10_put_23 : decode cX10_put 23 = .ok (.invokevirtual 321, 3) := by decide +kernel
theorem dX10_put_26 : decode cX10_put 26 = .ok (.ifCond .eq 9, 3) := by decide +kernel
theorem dX10_put_29 : decode cX10_put 29 = .ok (.aload_n 0, 1) := by decide +kernel
theorem dX10_put_30 : decode cX10_put 30 = .ok (.iconst 2, 1) := by decide +kernel
theorem dX10_put_31 : decode cX10_put 31 = .ok (.invokevirtual 87, 3) := by decide +kernel
theorem dX10_put_34 : decode cX10_put 34 = .ok (.ireturn, 1) := by decide +kernel
theorem dX10_put_35 : decode cX10_put 35 = .ok (.iload_n 2, 1) := by decide +kernel
theorem dX10_put_36 : decode cX10_put 36 = .ok (.iconst 0, 1) := by decide +kernel
theorem dX10_put_37 : decode cX10_put 37 = .ok (.aload 4, 2) := by decide +kernel
theorem dX10_put_39 : decode cX10_put 39 = .ok (.getfield 325, 3) := by decide +kernel
theorem dX10_put_42 : decode cX10_put 42 = .ok (.iconst 1, 1) := by decide +kernel
theorem dX10_put_43 : decode cX10_put 43 = .ok (.isub, 1) := by decide +kernel
theorem dX10_put_44 : decode cX10_put 44 = .ok (.invokestatic 83, 3) := by decide +kernel
theorem dX10_put_47 : decode cX10_put 47 = .ok (.ifCond .ne 9, 3) := by decide +kernel
theorem dX10_put_50 : decode cX10_put 50 = .ok (.aload_n 0, 1) := by decide +kernel
theorem dX10_put_51 : decode cX10_put 51 = .ok (.iconst 1, 1) := by decide +kernel
theorem dX10_put_52 : decode cX10_put 52 = .ok (.invokevirtual 87, 3) := by decide +kernel
theorem dX10_put_55 : decode cX10_put 55 = .ok (.ireturn, 1) := by decide +kernel
theorem dX10_put_56 : decode cX10_put 56 = .ok (.aload 4, 2) := by decide +kernel
theorem dX10_put_58 : decode cX10_put 58 = .ok (.iload_n 2, 1) := by decide +kernel
theorem dX10_put_59 : decode cX10_put 59 = .ok (.iload_n 3, 1) := by decide +kernel
theorem dX10_put_60 : decode cX10_put 60 = .ok (.invokevirtual 328, 3) := by decide +kernel
theorem dX10_put_63 : decode cX10_put 63 = .ok (.iconst 1, 1) := by decide +kernel
theorem dX10_put_64 : decode cX10_put 64 = .ok (.ireturn, 1) := by decide +kernel
theorem dX10_move_0 : decode cX10_move 0 = .ok (.iload_n 1, 1) := by decide +kernel
theorem dX10_move_1 : decode cX10_move 1 = .ok (.invokestatic 261, 3) := by decide +kernel
theorem dX10_move_4 : decode cX10_move 4 = .ok (.ifCond .eq 10, 3) := by decide +kernel
theorem dX10_move_7 : decode cX10_move 7 = .ok (.iload_n 3, 1) := by decide +kernel
theorem dX10_move_8 : decode cX10_move 8 = .ok (.invokestatic 261, 3) := by decide +kernel
theorem dX10_move_11 : decode cX10_move 11 = .ok (.ifCond .ne 9, 3) := by decide +kernel
theorem dX10_move_14 : decode cX10_move 14 = .ok (.aload_n 0, 1) := by decide +kernel
theorem dX10_move_15 : decode cX10_move 15 = .ok (.iconst 1, 1) := by decide +kernel
theorem dX10_move_16 : decode cX10_move 16 = .ok (.invokevirtual 87, 3) := by decide +kernel
theorem dX10_move_19 : decode cX10_move 19 = .ok (.ireturn, 1) := by decide +kernel
theorem dX10_move_20 : decode cX10_move 20 = .ok (.aload_n 0, 1) := by decide +kernel
theorem dX10_move_21 : decode cX10_move 21 = .ok (.getfield 29, 3) := by decide +kernel
theorem dX10_move_24 : decode cX10_move 24 = .ok (.iload_n 1, 1) := by decide +kernel
theorem dX10_move_25 : decode cX10_move 25 = .ok (.aaload, 1) := by decide +kernel
theorem dX10_move_26 : decode cX10_move 26 = .ok (.astore 6, 2) := by decide +kernel
theorem dX10_move_28 : decode cX10_move 28 = .ok (.aload_n 0, 1) := by decide +kernel
theorem dX10_move_29 : decode cX10_move 29 = .ok (.getfield 29, 3) := by decide +kernel
theorem dX10_move_32 : decode cX10_move 32 = .ok (.iload_n 3, 1) := by decide +kernel
theorem dX10_move_33 : decode cX10_move 33 = .ok (.aaload, 1) := by decide +kernel
theorem dX10_move_34 : decode cX10_move 34 = .ok (.astore 7, 2) := by decide +kernel
theorem dX10_move_36 : decode cX10_move 36 = .ok (.aload 6, 2) := by decide +kernel
theorem dX10_move_38 : decode cX10_move 38 = .ok (.invokevirtual 321, 3) := by decide +kernel
theorem dX10_move_41 : decode cX10_move 41 = .ok (.ifCond .ne 11, 3) := by decide +kernel
theorem dX10_move_44 : decode cX10_move 44 = .ok (.aload 7, 2) := by decide +kernel
theorem dX10_move_46 : decode cX10_move 46 = .ok (.invokevirtual 321, 3) := by decide +kernel
theorem dX10_move_49 : decode cX10_move 49 = .ok (.ifCond .eq 9, 3) := by decide +kernel
theorem dX10_move_52 : decode cX10_move 52 = .ok (.aload_n 0, 1) := by decide +kernel
theorem dX10_move_53 : decode cX10_move 53 = .ok (.iconst 2, 1) := by decide +kernel
theorem dX10_move_54 : decode cX10_move 54 = .ok (.invokevirtual 87, 3) := by decide +kernel
theorem dX10_move_57 : decode cX10_move 57 = .ok (.ireturn, 1) := by decide +kernel
theorem dX10_move_58 : decode cX10_move 58 = .ok (.aload 6, 2) := by decide +kernel
theorem dX10_move_60 : decode cX10_move 60 = .ok (.getfield 331, 3) := by decide +kernel
theorem dX10_move_63 : decode cX10_move 63 = .ok (.aload 7, 2) := by decide +kernel
theorem dX10_move_65 : decode cX10_move 65 = .ok (.getfield 331, 3) := by decide +kernel
theorem dX10_move_68 : decode cX10_move 68 = .ok (.if_icmp .eq 9, 3) := by decide +kernel
theorem dX10_move_71 : decode cX10_move 71 = .ok (.aload_n 0, 1) := by decide +kernel
theorem dX10_move_72 : decode cX10_move 72 = .ok (.iconst 5, 1) := by decide +kernel
theorem dX10_move_73 : decode cX10_move 73 = .ok (.invokevirtual 87, 3) := by decide +kernel
theorem dX10_move_76 : decode cX10_move 76 = .ok (.ireturn, 1) := by decide +kernel
theorem dX10_move_77 : decode cX10_move 77 = .ok (.aload 6, 2) := by decide +kernel
theorem dX10_move_79 : decode cX10_move 79 = .ok (.iload_n 2, 1) := by decide +kernel
theorem dX10_move_80 : decode cX10_move 80 = .ok (.iload 5, 2) := by decide +kernel
theorem dX10_move_82 : decode cX10_move 82 = .ok (.invokevirtual 334, 3) := by decide +kernel
theorem dX10_move_85 : decode cX10_move 85 = .ok (.ifCond .eq 15, 3) := by decide +kernel
theorem dX10_move_88 : decode cX10_move 88 = .ok (.aload 7, 2) := by decide +kernel
theorem dX10_move_90 : decode cX10_move 90 = .ok (.iload 4, 2) := by decide +kernel
theorem dX10_move_92 : decode cX10_move 92 = .ok (.iload 5, 2) := by decide +kernel
theorem dX10_move_94 : decode cX10_move 94 = .ok (.invokevirtual 334, 3) := by decide +kernel
theorem dX10_move_97 : decode cX10_move 97 = .ok (.ifCond .ne 9, 3) := by decide +kernel
theorem dX10_move_100 : decode cX10_move 100 = .ok (.aload_n 0, 1) := by decide +kernel
theorem dX10_move_101 : decode cX10_move 101 = .ok (.iconst 1, 1) := by decide +kernel
theorem dX10_move_102 : decode cX10_move 102 = .ok (.invokevirtual 87, 3) := by decide +kernel
theorem dX10_move_105 : decode cX10_move 105 = .ok (.ireturn, 1) := by decide +kernel
theorem dX10_move_106 : decode cX10_move 106 = .ok (.aload 6, 2) := by decide +kernel
theorem dX10_move_108 : decode cX10_move 108 = .ok (.getfield 337, 3) := by decide +kernel
theorem dX10_move_111 : decode cX10_move 111 = .ok (.iload_n 2, 1) := by decide +kernel
theorem dX10_move_112 : decode cX10_move 112 = .ok (.aload 7, 2) := by decide +kernel
theorem dX10_move_114 : decode cX10_move 114 = .ok (.getfield 337, 3) := by decide +kernel
theorem dX10_move_117 : decode cX10_move 117 = .ok (.iload 4, 2) := by decide +kernel
theorem dX10_move_119 : decode cX10_move 119 = .ok (.iload 5, 2) := by decide +kernel
theorem dX10_move_121 : decode cX10_move 121 = .ok (.invokestatic 338, 3) := by decide +kernel
theorem dX10_move_124 : decode cX10_move 124 = .ok (.iload 5, 2) := by decide +kernel
theorem dX10_move_126 : decode cX10_move 126 = .ok (.ireturn, 1) := by decide +kernel
theorem dX10_lets_0 : decode cX10_lets 0 = .ok (.iload_n 1, 1) := by decide +kernel
theorem dX10_lets_1 : decode cX10_lets 1 = .ok (.invokestatic 261, 3) := by decide +kernel
theorem dX10_lets_4 : decode cX10_lets 4 = .ok (.ifCond .ne 9, 3) := by decide +kernel
theorem dX10_lets_7 : decode cX10_lets 7 = .ok (.aload_n 0, 1) := by decide +kernel
theorem dX10_lets_8 : decode cX10_lets 8 = .ok (.iconst 1, 1) := by decide +kernel
theorem dX10_lets_9 : decode cX10_lets 9 = .ok (.invokevirtual 87, 3) := by decide +kernel
theorem dX10_lets_12 : decode cX10_lets 12 = .ok (.ireturn, 1) := by decide +kernel
theorem dX10_lets_13 : decode cX10_lets 13 = .ok (.aload_n 0, 1) := by decide +kernel
theorem dX10_lets_14 : decode cX10_lets 14 = .ok (.getfield 29, 3) := by decide +kernel
theorem dX10_lets_17 : decode cX10_lets 17 = .ok (.iload_n 1, 1) := by decide +kernel
theorem dX10_lets_18 : decode cX10_lets 18 = .ok (.aaload, 1) := by decide +kernel
theorem dX10_lets_19 : decode cX10_lets 19 = .ok (.astore_n 2, 1) := by decide +kernel
theorem dX10_lets_20 : decode cX10_lets 20 = .ok (.aload_n 2, 1) := by decide +kernel
theorem dX10_lets_21 : decode cX10_lets 21 = .ok (.invokevirtual 321, 3) := by decide +kernel
theorem dX10_lets_24 : decode cX10_lets 24 = .ok (.ifCond .eq 9, 3) := by decide +kernel
theorem dX10_lets_27 : decode cX10_lets 27 = .ok (.aload_n 0, 1) := by decide +kernel
theorem dX10_lets_28 : decode cX10_lets 28 = .ok (.iconst 2, 1) := by decide +kernel
theorem dX10_lets_29 : decode cX10_lets 29 = .ok (.invokevirtual 87, 3) := by decide +kernel
theorem dX10_lets_32 : decode cX10_lets 32 = .ok (.ireturn, 1) := by decide +kernel
theorem dX10_lets_33 : decode cX10_lets 33 = .ok (.iconst 0, 1) := by decide +kernel
theorem dX10_lets_34 : decode cX10_lets 34 = .ok (.istore_n 3, 1) := by decide +kernel
theorem dX10_lets_35 : decode cX10_lets 35 = .ok (.iload_n 3, 1) := by decide +kernel
theorem dX10_lets_36 : decode cX10_lets 36 = .ok (.aload_n 2, 1) := by decide +kernel
theorem dX10_lets_37 : decode cX10_lets 37 = .ok (.getfield 325, 3) := by decide +kernel
theorem dX10_lets_40 : decode cX10_lets 40 = .ok (.if_icmp .ge 46, 3) := by decide +kernel
theorem dX10_lets_43 : decode cX10_lets 43 = .ok (.aload_n 0, 1) := by decide +kernel
theorem dX10_lets_44 : decode cX10_lets 44 = .ok (.getfield 16, 3) := by decide +kernel
theorem dX10_lets_47 : decode cX10_lets 47 = .ok (.getfield 91, 3) := by decide +kernel
theorem dX10_lets_50 : decode cX10_lets 50 = .ok (.aload_n 2, 1) := by decide +kernel
theorem dX10_lets_51 : decode cX10_lets 51 = .ok (.getfield 337, 3) := by decide +kernel
theorem dX10_lets_54 : decode cX10_lets 54 = .ok (.iload_n 3, 1) := by decide +kernel
theorem dX10_lets_55 : decode cX10_lets 55 = .ok (.iaload, 1) := by decide +kernel
theorem dX10_lets_56 : decode cX10_lets 56 = .ok (.invokevirtual 147, 3) := by decide +kernel
theorem dX10_lets_59 : decode cX10_lets 59 = .ok (.ifCond .eq 27, 3) := by decide +kernel
theorem dX10_lets_62 : decode cX10_lets 62 = .ok (.aload_n 0, 1) := by decide +kernel
theorem dX10_lets_63 : decode cX10_lets 63 = .ok (.getfield 16, 3) := by decide +kernel
theorem dX10_lets_66 : decode cX10_lets 66 = .ok (.aload_n 0, 1) := by decide +kernel
theorem dX10_lets_67 : decode cX10_lets 67 = .ok (.getfield 36, 3) := by decide +kernel
theorem dX10_lets_70 : decode cX10_lets 70 = .ok (.aload_n 2, 1) := by decide +kernel
theorem dX10_lets_71 : decode cX10_lets 71 = .ok (.getfield 337, 3) := by decide +kernel
theorem dX10_lets_74 : decode cX10_lets 74 = .ok (.iload_n 3, 1) := by decide +kernel
theorem dX10_lets_75 : decode cX10_lets 75 = .ok (.iaload, 1) := by decide +kernel
theorem dX10_lets_76 : decode cX10_lets 76 = .ok (.invokevirtual 150, 3) := by decide +kernel
theorem dX10_lets_79 : decode cX10_lets 79 = .ok (.pop, 1) := by decide +kernel
theorem dX10_lets_80 : decode cX10_lets 80 = .ok (.iinc 3 1, 3) := by decide +kernel
theorem dX10_lets_83 : decode cX10_lets 83 = .ok (.goto (-48), 3) := by decide +kernel
theorem dX10_lets_86 : decode cX10_lets 86 = .ok (.iload_n 3, 1) := by decide +kernel
theorem dX10_lets_87 : decode cX10_lets 87 = .ok (.ireturn, 1) := by decide +kernel
theorem dX10_judge_0 : decode cX10_judge 0 = .ok (.iload_n 1, 1) := by decide +kernel
theorem dX10_judge_1 : decode cX10_judge 1 = .ok (.invokestatic 261, 3) := by decide +kernel
theorem dX10_judge_4 : decode cX10_judge 4 = .ok (.ifCond .ne 9, 3) := by decide +kernel
theorem dX10_judge_7 : decode cX10_judge 7 = .ok (.aload_n 0, 1) := by decide +kernel
theorem dX10_judge_8 : decode cX10_judge 8 = .ok (.iconst 1, 1) := by decide +kernel
theorem dX10_judge_9 : decode cX10_judge 9 = .ok (.invokevirtual 87, 3) := by decide +kernel
theorem dX10_judge_12 : decode cX10_judge 12 = .ok (.ireturn, 1) := by decide +kernel
theorem dX10_judge_13 : decode cX10_judge 13 = .ok (.aload_n 0, 1) := by decide +kernel
theorem dX10_judge_14 : decode cX10_judge 14 = .ok (.getfield 29, 3) := by decide +kernel
theorem dX10_judge_17 : decode cX10_judge 17 = .ok (.iload_n 1, 1) := by decide +kernel
theorem dX10_judge_18 : decode cX10_judge 18 = .ok (.aaload, 1) := by decide +kernel
theorem dX10_judge_19 : decode cX10_judge 19 = .ok (.astore_n 2, 1) := by decide +kernel
theorem dX10_judge_20 : decode cX10_judge 20 = .ok (.aload_n 2, 1) := by decide +kernel
theorem dX10_judge_21 : decode cX10_judge 21 = .ok (.invokevirtual 321, 3) := by decide +kernel
theorem dX10_judge_24 : decode cX10_judge 24 = .ok (.ifCond .eq 9, 3) := by decide +kernel
theorem dX10_judge_27 : decode cX10_judge 27 = .ok (.aload_n 0, 1) := by decide +kernel
theorem dX10_judge_28 : decode cX10_judge 28 = .ok (.iconst 2, 1) := by decide +kernel
theorem dX10_judge_29 : decode cX10_judge 29 = .ok (.invokevirtual 87, 3) := by decide +kernel
theorem dX10_judge_32 : decode cX10_judge 32 = .ok (.ireturn, 1) := by decide +kernel
theorem dX10_judge_33 : decode cX10_judge 33 = .ok (.aload_n 0, 1) := by decide +kernel
theorem dX10_judge_34 : decode cX10_judge 34 = .ok (.getfield 16, 3) := by decide +kernel
theorem dX10_judge_37 : decode cX10_judge 37 = .ok (.getfield 91, 3) := by decide +kernel
theorem dX10_judge_40 : decode cX10_judge 40 = .ok (.invokevirtual 344, 3) := by decide +kernel
theorem dX10_judge_43 : decode cX10_judge 43 = .ok (.istore_n 3, 1) := by decide +kernel
theorem dX10_judge_44 : decode cX10_judge 44 = .ok (.aload_n 2, 1) := by decide +kernel
theorem dX10_judge_45 : decode cX10_judge 45 = .ok (.getfield 325, 3) := by decide +kernel
theorem dX10_judge_48 : decode cX10_judge 48 = .ok (.iload_n 3, 1) := by decide +kernel
theorem dX10_judge_49 : decode cX10_judge 49 = .ok (.invokestatic 346, 3) := by decide +kernel
theorem dX10_judge_52 : decode cX10_judge 52 = .ok (.istore 4, 2) := by decide +kernel
theorem dX10_judge_54 : decode cX10_judge 54 = .ok (.iconst 0, 1) := by decide +kernel
theorem dX10_judge_55 : decode cX10_judge 55 = .ok (.istore 5, 2) := by decide +kernel
theorem dX10_judge_57 : decode cX10_judge 57 = .ok (.iload 5, 2) := by decide +kernel
theorem dX10_judge_59 : decode cX10_judge 59 = .ok (.iload 4, 2) := by decide +kernel
theorem dX10_judge_61 : decode cX10_judge 61 = .ok (.if_icmp .ge 34, 3) := by decide +kernel
theorem dX10_judge_64 : decode cX10_judge 64 = .ok (.aload_n 2, 1) := by decide +kernel
theorem dX10_judge_65 : decode cX10_judge 65 = .ok (.getfield 337, 3) := by decide +kernel
theorem dX10_judge_68 : decode cX10_judge 68 = .ok (.iload 5, 2) := by decide +kernel
theorem dX10_judge_70 : decode cX10_judge 70 = .ok (.iaload, 1) := by decide +kernel
theorem dX10_judge_71 : decode cX10_judge 71 = .ok (.aload_n 0, 1) := by decide +kernel
theorem dX10_judge_72 : decode cX10_judge 72 = .ok (.getfield 16, 3) := by decide +kernel
theorem dX10_judge_75 : decode cX10_judge 75 = .ok (.getfield 91, 3) := by decide +kernel
theorem dX10_judge_78 : decode cX10_judge 78 = .ok (.iload 5, 2) := by decide +kernel
theorem dX10_judge_80 : decode cX10_judge 80 = .ok (.invokevirtual 116, 3) := by decide +kernel
theorem dX10_judge_83 : decode cX10_judge 83 = .ok (.if_icmp .eq 6, 3) := by decide +kernel
theorem dX10_judge_86 : decode cX10_judge 86 = .ok (.iload 5, 2) := by decide +kernel
theorem dX10_judge_88 : decode cX10_judge 88 = .ok (.ireturn, 1) := by decide +kernel
theorem dX10_judge_89 : decode cX10_judge 89 = .ok (.iinc 5 1, 3) := by decide +kernel
theorem dX10_judge_92 : decode cX10_judge 92 = .ok (.goto (-35), 3) := by decide +kernel
theorem dX10_judge_95 : decode cX10_judge 95 = .ok (.aload_n 2, 1) := by decide +kernel
theorem dX10_judge_96 : decode cX10_judge 96 = .ok (.getfield 325, 3) := by decide +kernel
theorem dX10_judge_99 : decode cX10_judge 99 = .ok (.iload_n 3, 1) := by decide +kernel
theorem dX10_judge_100 : decode cX10_judge 100 = .ok (.if_icmp .ne 7, 3) := by decide +kernel
theorem dX10_judge_103 : decode cX10_judge 103 = .ok (.iconst (-1), 1) := by decide +kernel
theorem dX10_judge_104 : decode cX10_judge 104 = .ok (.goto 5, 3) := by decide +kernel
theorem dX10_judge_107 : decode cX10_judge 107 = .ok (.iload 4, 2) := by decide +kernel
theorem dX10_judge_109 : decode cX10_judge 109 = .ok (.ireturn, 1) := by decide +kernel
theorem dX10_image_0 : decode cX10_image 0 = .ok (.aload_n 0, 1) := by decide +kernel
theorem dX10_image_1 : decode cX10_image 1 = .ok (.getfield 20, 3) := by decide +kernel
theorem dX10_image_4 : decode cX10_image 4 = .ok (.aload_n 0, 1) := by decide +kernel
theorem dX10_image_5 : decode cX10_image 5 = .ok (.getfield 16, 3) := by decide +kernel
theorem dX10_image_8 : decode cX10_image 8 = .ok (.invokevirtual 352, 3) := by decide +kernel
theorem dX10_image_11 : decode cX10_image 11 = .ok (.aload_n 0, 1) := by decide +kernel
theorem dX10_image_12 : decode cX10_image 12 = .ok (.dup, 1) := by decide +kernel
theorem dX10_image_13 : decode cX10_image 13 = .ok (.getfield 23, 3) := by decide +kernel
theorem dX10_image_16 : decode cX10_image 16 = .ok (.iconst 1, 1) := by decide +kernel
theorem dX10_image_17 : decode cX10_image 17 = .ok (.iadd, 1) := by decide +kernel
theorem dX10_image_18 : decode cX10_image 18 = .ok (.putfield 23, 3) := by decide +kernel
theorem dX10_image_21 : decode cX10_image 21 = .ok (.aload_n 0, 1) := by decide +kernel
theorem dX10_image_22 : decode cX10_image 22 = .ok (.getfield 23, 3) := by decide +kernel
theorem dX10_image_25 : decode cX10_image 25 = .ok (.ireturn, 1) := by decide +kernel
theorem dX10_restore_0 : decode cX10_restore 0 = .ok (.aload_n 0, 1) := by decide +kernel
theorem dX10_restore_1 : decode cX10_restore 1 = .ok (.getfield 23, 3) := by decide +kernel
theorem dX10_restore_4 : decode cX10_restore 4 = .ok (.ifCond .ne 9, 3) := by decide +kernel
theorem dX10_restore_7 : decode cX10_restore 7 = .ok (.aload_n 0, 1) := by decide +kernel
theorem dX10_restore_8 : decode cX10_restore 8 = .ok (.iconst 2, 1) := by decide +kernel
theorem dX10_restore_9 : decode cX10_restore 9 = .ok (.invokevirtual 87, 3) := by decide +kernel
theorem dX10_restore_12 : decode cX10_restore 12 = .ok (.ireturn, 1) := by decide +kernel
theorem dX10_restore_13 : decode cX10_restore 13 = .ok (.aload_n 0, 1) := by decide +kernel
theorem dX10_restore_14 : decode cX10_restore 14 = .ok (.getfield 16, 3) := by decide +kernel
theorem dX10_restore_17 : decode cX10_restore 17 = .ok (.aload_n 0, 1) := by decide +kernel
theorem dX10_restore_18 : decode cX10_restore 18 = .ok (.getfield 20, 3) := by decide +kernel
theorem dX10_restore_21 : decode cX10_restore 21 = .ok (.invokevirtual 352, 3) := by decide +kernel
theorem dX10_restore_24 : decode cX10_restore 24 = .ok (.aload_n 0, 1) := by decide +kernel
theorem dX10_restore_25 : decode cX10_restore 25 = .ok (.getfield 16, 3) := by decide +kernel
theorem dX10_restore_28 : decode cX10_restore 28 = .ok (.getfield 291, 3) := by decide +kernel
theorem dX10_restore_31 : decode cX10_restore 31 = .ok (.ireturn, 1) := by decide +kernel
theorem dX10_tell_0 : decode cX10_tell 0 = .ok (.aload_n 0, 1) := by decide +kernel
theorem dX10_tell_1 : decode cX10_tell 1 = .ok (.getfield 16, 3) := by decide +kernel
theorem dX10_tell_4 : decode cX10_tell 4 = .ok (.iload_n 1, 1) := by decide +kernel
theorem dX10_tell_5 : decode cX10_tell 5 = .ok (.invokevirtual 355, 3) := by decide +kernel
theorem dX10_tell_8 : decode cX10_tell 8 = .ok (.ifCond .eq 13, 3) := by decide +kernel
theorem dX10_tell_11 : decode cX10_tell 11 = .ok (.aload_n 0, 1) := by decide +kernel
theorem dX10_tell_12 : decode cX10_tell 12 = .ok (.getfield 16, 3) := by decide +kernel
theorem dX10_tell_15 : decode cX10_tell 15 = .ok (.getfield 358, 3) := by decide +kernel
theorem dX10_tell_18 : decode cX10_tell 18 = .ok (.goto 8, 3) := by decide +kernel
theorem dX10_tell_21 : decode cX10_tell 21 = .ok (.aload_n 0, 1) := by decide +kernel
theorem dX10_tell_22 : decode cX10_tell 22 = .ok (.iconst 4, 1) := by decide +kernel
theorem dX10_tell_23 : decode cX10_tell 23 = .ok (.invokevirtual 87, 3) := by decide +kernel
theorem dX10_tell_26 : decode cX10_tell 26 = .ok (.ireturn, 1) := by decide +kernel
theorem dX10_check_0 : decode cX10_check 0 = .ok (.aload_n 0, 1) := by decide +kernel
theorem dX10_check_1 : decode cX10_check 1 = .ok (.getfield 16, 3) := by decide +kernel
theorem dX10_check_4 : decode cX10_check 4 = .ok (.getfield 358, 3) := by decide +kernel
theorem dX10_check_7 : decode cX10_check 7 = .ok (.istore_n 1, 1) := by decide +kernel
theorem dX10_check_8 : decode cX10_check 8 = .ok (.aload_n 0, 1) := by decide +kernel
theorem dX10_check_9 : decode cX10_check 9 = .ok (.getfield 16, 3) := by decide +kernel
theorem dX10_check_12 : decode cX10_check 12 = .ok (.iconst 0, 1) := by decide +kernel
theorem dX10_check_13 : decode cX10_check 13 = .ok (.putfield 358, 3) := by decide +kernel
theorem dX10_check_16 : decode cX10_check 16 = .ok (.aload_n 0, 1) := by decide +kernel
theorem dX10_check_17 : decode cX10_check 17 = .ok (.getfield 43, 3) := by decide +kernel
theorem dX10_check_20 : decode cX10_check 20 = .ok (.aload_n 0, 1) := by decide +kernel
theorem dX10_check_21 : decode cX10_check 21 = .ok (.getfield 16, 3) := by decide +kernel
theorem dX10_check_24 : decode cX10_check 24 = .ok (.getfield 91, 3) := by decide +kernel
theorem dX10_check_27 : decode cX10_check 27 = .ok (.invokevirtual 154, 3) := by decide +kernel
theorem dX10_check_30 : decode cX10_check 30 = .ok (.iconst 0, 1) := by decide +kernel
theorem dX10_check_31 : decode cX10_check 31 = .ok (.istore_n 2, 1) := by decide +kernel
theorem dX10_check_32 : decode cX10_check 32 = .ok (.iload_n 2, 1) := by decide +kernel
theorem dX10_check_33 : decode cX10_check 33 = .ok (.iload_n 1, 1) := by decide +kernel
theorem dX10_check_34 : decode cX10_check 34 = .ok (.if_icmp .ge 77, 3) := by decide +kernel
theorem dX10_check_37 : decode cX10_check 37 = .ok (.iload_n 2, 1) := by decide +kernel
theorem dX10_check_38 : decode cX10_check 38 = .ok (.aload_n 0, 1) := by decide +kernel
theorem dX10_check_39 : decode cX10_check 39 = .ok (.getfield 16, 3) := by decide +kernel
theorem dX10_check_42 : decode cX10_check 42 = .ok (.getfield 361, 3) := by decide +kernel
theorem dX10_check_45 : decode cX10_check 45 = .ok (.arraylength, 1) := by decide +kernel
theorem dX10_check_46 : decode cX10_check 46 = .ok (.if_icmp .ge 65, 3) := by decide +kernel
theorem dX10_check_49 : decode cX10_check 49 = .ok (.aload_n 0, 1) := by decide +kernel
theorem dX10_check_50 : decode cX10_check 50 = .ok (.getfield 43, 3) := by decide +kernel
theorem dX10_check_53 : decode cX10_check 53 = .ok (.aload_n 0, 1) := by decide +kernel
theorem dX10_check_54 : decode cX10_check 54 = .ok (.getfield 16, 3) := by decide +kernel
theorem dX10_check_57 : decode cX10_check 57 = .ok (.getfield 91, 3) := by decide +kernel
theorem dX10_check_60 : decode cX10_check 60 = .ok (.invokevirtual 364, 3) := by decide +kernel
theorem dX10_check_63 : decode cX10_check 63 = .ok (.aload_n 0, 1) := by decide +kernel
theorem dX10_check_64 : decode cX10_check 64 = .ok (.getfield 16, 3) := by decide +kernel
theorem dX10_check_67 : decode cX10_check 67 = .ok (.getfield 91, 3) := by decide +kernel
theorem dX10_check_70 : decode cX10_check 70 = .ok (.iload_n 2, 1) := by decide +kernel
theorem dX10_check_71 : decode cX10_check 71 = .ok (.invokevirtual 147, 3) := by decide +kernel
theorem dX10_check_74 : decode cX10_check 74 = .ok (.ifCond .eq 27, 3) := by decide +kernel
theorem dX10_check_77 : decode cX10_check 77 = .ok (.aload_n 0, 1) := by decide +kernel
theorem dX10_check_78 : decode cX10_check 78 = .ok (.getfield 36, 3) := by decide +kernel
theorem dX10_check_81 : decode cX10_check 81 = .ok (.aload_n 0, 1) := by decide +kernel
theorem dX10_check_82 : decode cX10_check 82 = .ok (.getfield 43, 3) := by decide +kernel
theorem dX10_check_85 : decode cX10_check 85 = .ok (.iload_n 2, 1) := by decide +kernel
theorem dX10_check_86 : decode cX10_check 86 = .ok (.invokevirtual 158, 3) := by decide +kernel
theorem dX10_check_89 : decode cX10_check 89 = .ok (.aload_n 0, 1) := by decide +kernel
theorem dX10_check_90 : decode cX10_check 90 = .ok (.getfield 16, 3) := by decide +kernel
theorem dX10_check_93 : decode cX10_check 93 = .ok (.getfield 361, 3) := by decide +kernel
theorem dX10_check_96 : decode cX10_check 96 = .ok (.iload_n 2, 1) := by decide +kernel
theorem dX10_check_97 : decode cX10_check 97 = .ok (.iaload, 1) := by decide +kernel
theorem dX10_check_98 : decode cX10_check 98 = .ok (.if_icmp .eq 7, 3) := by decide +kernel
theorem dX10_check_101 : decode cX10_check 101 = .ok (.iconst 1, 1) := by decide +kernel
theorem dX10_check_102 : decode cX10_check 102 = .ok (.iload_n 2, 1) := by decide +kernel
theorem dX10_check_103 : decode cX10_check 103 = .ok (.iadd, 1) := by decide +kernel
theorem dX10_check_104 : decode cX10_check 104 = .ok (.ireturn, 1) := by decide +kernel
theorem dX10_check_105 : decode cX10_check 105 = .ok (.iinc 2 1, 3) := by decide +kernel
theorem dX10_check_108 : decode cX10_check 108 = .ok (.goto (-76), 3) := by decide +kernel
theorem dX10_check_111 : decode cX10_check 111 = .ok (.iconst 0, 1) := by decide +kernel
theorem dX10_check_112 : decode cX10_check 112 = .ok (.ireturn, 1) := by decide +kernel
theorem dX10_count_0 : decode cX10_count 0 = .ok (.iload_n 1, 1) := by decide +kernel
theorem dX10_count_1 : decode cX10_count 1 = .ok (.tableswitch 162 0 10 #[59, 70, 81, 92, 103, 114, 122, 130, 138, 146, 154], 59) := by decide +kernel
theorem dX10_count_60 : decode cX10_count 60 = .ok (.aload_n 0, 1) := by decide +kernel
theorem dX10_count_61 : decode cX10_count 61 = .ok (.getfield 16, 3) := by decide +kernel
theorem dX10_count_64 : decode cX10_count 64 = .ok (.getfield 91, 3) := by decide +kernel
theorem dX10_count_67 : decode cX10_count 67 = .ok (.getfield 367, 3) := by decide +kernel
theorem dX10_count_70 : decode cX10_count 70 = .ok (.ireturn, 1) := by decide +kernel
theorem dX10_count_71 : decode cX10_count 71 = .ok (.aload_n 0, 1) := by decide +kernel
theorem dX10_count_72 : decode cX10_count 72 = .ok (.getfield 16, 3) := by decide +kernel
theorem dX10_count_75 : decode cX10_count 75 = .ok (.getfield 91, 3) := by decide +kernel
theorem dX10_count_78 : decode cX10_count 78 = .ok (.getfield 370, 3) := by decide +kernel
theorem dX10_count_81 : decode cX10_count 81 = .ok (.ireturn, 1) := by decide +kernel
theorem dX10_count_82 : decode cX10_count 82 = .ok (.aload_n 0, 1) := by decide +kernel
theorem dX10_count_83 : decode cX10_count 83 = .ok (.getfield 16, 3) := by decide +kernel
theorem dX10_count_86 : decode cX10_count 86 = .ok (.getfield 91, 3) := by decide +kernel
theorem dX10_count_89 : decode cX10_count 89 = .ok (.invokevirtual 98, 3) := by decide +kernel
theorem dX10_count_92 : decode cX10_count 92 = .ok (.ireturn, 1) := by decide +kernel
theorem dX10_count_93 : decode cX10_count 93 = .ok (.aload_n 0, 1) := by decide +kernel
theorem dX10_count_94 : decode cX10_count 94 = .ok (.getfield 16, 3) := by decide +kernel
theorem dX10_count_97 : decode cX10_count 97 = .ok (.getfield 91, 3) := by decide +kernel
theorem dX10_count_100 : decode cX10_count 100 = .ok (.invokevirtual 373, 3) := by decide +kernel
theorem dX10_count_103 : decode cX10_count 103 = .ok (.ireturn, 1) := by decide +kernel
theorem dX10_count_104 : decode cX10_count 104 = .ok (.aload_n 0, 1) := by decide +kernel
theorem dX10_count_105 : decode cX10_count 105 = .ok (.getfield 16, 3) := by decide +kernel
theorem dX10_count_108 : decode cX10_count 108 = .ok (.getfield 91, 3) := by decide +kernel
theorem dX10_count_111 : decode cX10_count 111 = .ok (.invokevirtual 376, 3) := by decide +kernel
theorem dX10_count_114 : decode cX10_count 114 = .ok (.ireturn, 1) := by decide +kernel
theorem dX10_count_115 : decode cX10_count 115 = .ok (.aload_n 0, 1) := by decide +kernel
theorem dX10_count_116 : decode cX10_count 116 = .ok (.getfield 16, 3) := by decide +kernel
theorem dX10_count_119 : decode cX10_count 119 = .ok (.getfield 298, 3) := by decide +kernel
theorem dX10_count_122 : decode cX10_count 122 = .ok (.ireturn, 1) := by decide +kernel
theorem dX10_count_123 : decode cX10_count 123 = .ok (.aload_n 0, 1) := by decide +kernel
theorem dX10_count_124 : decode cX10_count 124 = .ok (.getfield 16, 3) := by decide +kernel
theorem dX10_count_127 : decode cX10_count 127 = .ok (.getfield 291, 3) := by decide +kernel
theorem dX10_count_130 : decode cX10_count 130 = .ok (.ireturn, 1) := by decide +kernel
theorem dX10_count_131 : decode cX10_count 131 = .ok (.aload_n 0, 1) := by decide +kernel
theorem dX10_count_132 : decode cX10_count 132 = .ok (.getfield 16, 3) := by decide +kernel
theorem dX10_count_135 : decode cX10_count 135 = .ok (.getfield 184, 3) := by decide +kernel
theorem dX10_count_138 : decode cX10_count 138 = .ok (.ireturn, 1) := by decide +kernel
theorem dX10_count_139 : decode cX10_count 139 = .ok (.aload_n 0, 1) := by decide +kernel
theorem dX10_count_140 : decode cX10_count 140 = .ok (.getfield 16, 3) := by decide +kernel
theorem dX10_count_143 : decode cX10_count 143 = .ok (.getfield 358, 3) := by decide +kernel
theorem dX10_count_146 : decode cX10_count 146 = .ok (.ireturn, 1) := by decide +kernel
theorem dX10_count_147 : decode cX10_count 147 = .ok (.aload_n 0, 1) := by decide +kernel
theorem dX10_count_148 : decode cX10_count 148 = .ok (.getfield 57, 3) := by decide +kernel
theorem dX10_count_151 : decode cX10_count 151 = .ok (.getfield 308, 3) := by decide +kernel
theorem dX10_count_154 : decode cX10_count 154 = .ok (.ireturn, 1) := by decide +kernel
theorem dX10_count_155 : decode cX10_count 155 = .ok (.aload_n 0, 1) := by decide +kernel
theorem dX10_count_156 : decode cX10_count 156 = .ok (.getfield 16, 3) := by decide +kernel
theorem dX10_count_159 : decode cX10_count 159 = .ok (.getfield 301, 3) := by decide +kernel
theorem dX10_count_162 : decode cX10_count 162 = .ok (.ireturn, 1) := by decide +kernel
theorem dX10_count_163 : decode cX10_count 163 = .ok (.aload_n 0, 1) := by decide +kernel
theorem dX10_count_164 : decode cX10_count 164 = .ok (.iconst 1, 1) := by decide +kernel
theorem dX10_count_165 : decode cX10_count 165 = .ok (.invokevirtual 87, 3) := by decide +kernel
theorem dX10_count_168 : decode cX10_count 168 = .ok (.ireturn, 1) := by decide +kernel
theorem dX10_told_0 : decode cX10_told 0 = .ok (.iload_n 1, 1) := by decide +kernel
theorem dX10_told_1 : decode cX10_told 1 = .ok (.iconst 1, 1) := by decide +kernel
theorem dX10_told_2 : decode cX10_told 2 = .ok (.iconst 5, 1) := by decide +kernel
theorem dX10_told_3 : decode cX10_told 3 = .ok (.invokestatic 83, 3) := by decide +kernel
theorem dX10_told_6 : decode cX10_told 6 = .ok (.ifCond .eq 12, 3) := by decide +kernel
theorem dX10_told_9 : decode cX10_told 9 = .ok (.aload_n 0, 1) := by decide +kernel
theorem dX10_told_10 : decode cX10_told 10 = .ok (.getfield 7, 3) := by decide +kernel
theorem dX10_told_13 : decode cX10_told 13 = .ok (.iload_n 1, 1) := by decide +kernel
theorem dX10_told_14 : decode cX10_told 14 = .ok (.iaload, 1) := by decide +kernel
theorem dX10_told_15 : decode cX10_told 15 = .ok (.goto 8, 3) := by decide +kernel
theorem dX10_told_18 : decode cX10_told 18 = .ok (.aload_n 0, 1) := by decide +kernel
theorem dX10_told_19 : decode cX10_told 19 = .ok (.iconst 1, 1) := by decide +kernel
theorem dX10_told_20 : decode cX10_told 20 = .ok (.invokevirtual 87, 3) := by decide +kernel
theorem dX10_told_23 : decode cX10_told 23 = .ok (.ireturn, 1) := by decide +kernel
theorem dX10_fail_0 : decode cX10_fail 0 = .ok (.iload_n 1, 1) := by decide +kernel
theorem dX10_fail_1 : decode cX10_fail 1 = .ok (.iconst 1, 1) := by decide +kernel
theorem dX10_fail_2 : decode cX10_fail 2 = .ok (.iconst 5, 1) := by decide +kernel
theorem dX10_fail_3 : decode cX10_fail 3 = .ok (.invokestatic 83, 3) := by decide +kernel
theorem dX10_fail_6 : decode cX10_fail 6 = .ok (.ifCond .eq 13, 3) := by decide +kernel
theorem dX10_fail_9 : decode cX10_fail 9 = .ok (.aload_n 0, 1) := by decide +kernel
theorem dX10_fail_10 : decode cX10_fail 10 = .ok (.getfield 7, 3) := by decide +kernel
theorem dX10_fail_13 : decode cX10_fail 13 = .ok (.iload_n 1, 1) := by decide +kernel
theorem dX10_fail_14 : decode cX10_fail 14 = .ok (.dup2, 1) := by decide +kernel
theorem dX10_fail_15 : decode cX10_fail 15 = .ok (.iaload, 1) := by decide +kernel
theorem dX10_fail_16 : decode cX10_fail 16 = .ok (.iconst 1, 1) := by decide +kernel
theorem dX10_fail_17 : decode cX10_fail 17 = .ok (.iadd, 1) := by decide +kernel
theorem dX10_fail_18 : decode cX10_fail 18 = .ok (.iastore, 1) := by decide +kernel
theorem dX10_fail_19 : decode cX10_fail 19 = .ok (.ldc_w 379, 3) := by decide +kernel
theorem dX10_fail_22 : decode cX10_fail 22 = .ok (.iload_n 1, 1) := by decide +kernel
theorem dX10_fail_23 : decode cX10_fail 23 = .ok (.isub, 1) := by decide +kernel
theorem dX10_fail_24 : decode cX10_fail 24 = .ok (.ireturn, 1) := by decide +kernel
theorem dX10_hasSheet_0 : decode cX10_hasSheet 0 = .ok (.iload_n 0, 1) := by decide +kernel
theorem dX10_hasSheet_1 : decode cX10_hasSheet 1 = .ok (.iconst 0, 1) := by decide +kernel
theorem dX10_hasSheet_2 : decode cX10_hasSheet 2 = .ok (.iconst 3, 1) := by decide +kernel
theorem dX10_hasSheet_3 : decode cX10_hasSheet 3 = .ok (.invokestatic 83, 3) := by decide +kernel
theorem dX10_hasSheet_6 : decode cX10_hasSheet 6 = .ok (.ireturn, 1) := by decide +kernel
theorem dX10_within_0 : decode cX10_within 0 = .ok (.iload_n 0, 1) := by decide +kernel
theorem dX10_within_1 : decode cX10_within 1 = .ok (.iload_n 1, 1) := by decide +kernel
theorem dX10_within_2 : decode cX10_within 2 = .ok (.if_icmp .lt 12, 3) := by decide +kernel
theorem dX10_within_5 : decode cX10_within 5 = .ok (.iload_n 0, 1) := by decide +kernel
theorem dX10_within_6 : decode cX10_within 6 = .ok (.iload_n 2, 1) := by decide +kernel
theorem dX10_within_7 : decode cX10_within 7 = .ok (.if_icmp .gt 7, 3) := by decide +kernel
theorem dX10_within_10 : decode cX10_within 10 = .ok (.iconst 1, 1) := by decide +kernel
theorem dX10_within_11 : decode cX10_within 11 = .ok (.goto 4, 3) := by decide +kernel
theorem dX10_within_14 : decode cX10_within 14 = .ok (.iconst 0, 1) := by decide +kernel
theorem dX10_within_15 : decode cX10_within 15 = .ok (.ireturn, 1) := by decide +kernel
theorem dX10_held_0 : decode cX10_held 0 = .ok (.iload_n 1, 1) := by decide +kernel
theorem dX10_held_1 : decode cX10_held 1 = .ok (.iload_n 2, 1) := by decide +kernel
theorem dX10_held_2 : decode cX10_held 2 = .ok (.iload_n 0, 1) := by decide +kernel
theorem dX10_held_3 : decode cX10_held 3 = .ok (.invokestatic 346, 3) := by decide +kernel
theorem dX10_held_6 : decode cX10_held 6 = .ok (.invokestatic 380, 3) := by decide +kernel
theorem dX10_held_9 : decode cX10_held 9 = .ok (.ireturn, 1) := by decide +kernel
theorem dX10_quotient_0 : decode cX10_quotient 0 = .ok (.iload_n 1, 1) := by decide +kernel
theorem dX10_quotient_1 : decode cX10_quotient 1 = .ok (.ifCond .ne 7, 3) := by decide +kernel
theorem dX10_quotient_4 : decode cX10_quotient 4 = .ok (.iconst 0, 1) := by decide +kernel
theorem dX10_quotient_5 : decode cX10_quotient 5 = .ok (.goto 6, 3) := by decide +kernel
theorem dX10_quotient_8 : decode cX10_quotient 8 = .ok (.iload_n 0, 1) := by decide +kernel
theorem dX10_quotient_9 : decode cX10_quotient 9 = .ok (.iload_n 1, 1) := by decide +kernel
theorem dX10_quotient_10 : decode cX10_quotient 10 = .ok (.idiv, 1) := by decide +kernel
theorem dX10_quotient_11 : decode cX10_quotient 11 = .ok (.ireturn, 1) := by decide +kernel
theorem dX10_rest_0 : decode cX10_rest 0 = .ok (.iload_n 1, 1) := by decide +kernel
theorem dX10_rest_1 : decode cX10_rest 1 = .ok (.ifCond .ne 7, 3) := by decide +kernel
theorem dX10_rest_4 : decode cX10_rest 4 = .ok (.iconst 0, 1) := by decide +kernel
theorem dX10_rest_5 : decode cX10_rest 5 = .ok (.goto 6, 3) := by decide +kernel
theorem dX10_rest_8 : decode cX10_rest 8 = .ok (.iload_n 0, 1) := by decide +kernel
theorem dX10_rest_9 : decode cX10_rest 9 = .ok (.iload_n 1, 1) := by decide +kernel
theorem dX10_rest_10 : decode cX10_rest 10 = .ok (.irem, 1) := by decide +kernel
theorem dX10_rest_11 : decode cX10_rest 11 = .ok (.ireturn, 1) := by decide +kernel

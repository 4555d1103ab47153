theorem dX0_init_0 : decode cX0_init 0 = .ok (.aload_n 0, 1) := by decide +kernel
theorem dX0_init_1 : decode cX0_init 1 = .ok (.invokespecial 1, 3) := by decide +kernel
theorem dX0_init_4 : decode cX0_init 4 = .ok (.aload_n 0, 1) := by decide +kernel
theorem dX0_init_5 : decode cX0_init 5 = .ok (.iconst 0, 1) := by decide +kernel
theorem dX0_init_6 : decode cX0_init 6 = .ok (.putfield 7, 3) := by decide +kernel
theorem dX0_init_9 : decode cX0_init 9 = .ok (.aload_n 0, 1) := by decide +kernel
theorem dX0_init_10 : decode cX0_init 10 = .ok (.iconst 0, 1) := by decide +kernel
theorem dX0_init_11 : decode cX0_init 11 = .ok (.putfield 13, 3) := by decide +kernel
theorem dX0_init_14 : decode cX0_init 14 = .ok (.aload_n 0, 1) := by decide +kernel
theorem dX0_init_15 : decode cX0_init 15 = .ok (.iconst 0, 1) := by decide +kernel
theorem dX0_init_16 : decode cX0_init 16 = .ok (.putfield 16, 3) := by decide +kernel
theorem dX0_init_19 : decode cX0_init 19 = .ok (.aload_n 0, 1) := by decide +kernel
theorem dX0_init_20 : decode cX0_init 20 = .ok (.iconst 0, 1) := by decide +kernel
theorem dX0_init_21 : decode cX0_init 21 = .ok (.putfield 19, 3) := by decide +kernel
theorem dX0_init_24 : decode cX0_init 24 = .ok (.aload_n 0, 1) := by decide +kernel
theorem dX0_init_25 : decode cX0_init 25 = .ok (.iconst 0, 1) := by decide +kernel
theorem dX0_init_26 : decode cX0_init 26 = .ok (.putfield 22, 3) := by decide +kernel
theorem dX0_init_29 : decode cX0_init 29 = .ok (.aload_n 0, 1) := by decide +kernel
theorem dX0_init_30 : decode cX0_init 30 = .ok (.iconst 0, 1) := by decide +kernel
theorem dX0_init_31 : decode cX0_init 31 = .ok (.putfield 25, 3) := by decide +kernel
theorem dX0_init_34 : decode cX0_init 34 = .ok (.aload_n 0, 1) := by decide +kernel
theorem dX0_init_35 : decode cX0_init 35 = .ok (.iconst (-1), 1) := by decide +kernel
theorem dX0_init_36 : decode cX0_init 36 = .ok (.putfield 28, 3) := by decide +kernel
theorem dX0_init_39 : decode cX0_init 39 = .ok (.aload_n 0, 1) := by decide +kernel
theorem dX0_init_40 : decode cX0_init 40 = .ok (.iconst (-1), 1) := by decide +kernel
theorem dX0_init_41 : decode cX0_init 41 = .ok (.putfield 31, 3) := by decide +kernel
theorem dX0_init_44 : decode cX0_init 44 = .ok (.return_, 1) := by decide +kernel
theorem dX0_run_0 : decode cX0_run 0 = .ok (.aload_n 0, 1) := by decide +kernel
theorem dX0_run_1 : decode cX0_run 1 = .ok (.aload_n 1, 1) := by decide +kernel
theorem dX0_run_2 : decode cX0_run 2 = .ok (.iload_n 2, 1) := by decide +kernel
theorem dX0_run_3 : decode cX0_run 3 = .ok (.invokevirtual 34, 3) := by decide +kernel
theorem dX0_run_6 : decode cX0_run 6 = .ok (.aload_n 0, 1) := by decide +kernel
theorem dX0_run_7 : decode cX0_run 7 = .ok (.iconst 0, 1) := by decide +kernel
theorem dX0_run_8 : decode cX0_run 8 = .ok (.putfield 22, 3) := by decide +kernel
theorem dX0_run_11 : decode cX0_run 11 = .ok (.aload_n 0, 1) := by decide +kernel
theorem dX0_run_12 : decode cX0_run 12 = .ok (.iconst 0, 1) := by decide +kernel
theorem dX0_run_13 : decode cX0_run 13 = .ok (.putfield 25, 3) := by decide +kernel
theorem dX0_run_16 : decode cX0_run 16 = .ok (.iconst 0, 1) := by decide +kernel
theorem dX0_run_17 : decode cX0_run 17 = .ok (.istore_n 3, 1) := by decide +kernel
theorem dX0_run_18 : decode cX0_run 18 = .ok (.iload_n 3, 1) := by decide +kernel
theorem dX0_run_19 : decode cX0_run 19 = .ok (.sipush 5000, 3) := by decide +kernel
theorem dX0_run_22 : decode cX0_run 22 = .ok (.if_icmp .ge 137, 3) := by decide +kernel
theorem dX0_run_25 : decode cX0_run 25 = .ok (.aload_n 0, 1) := by decide +kernel
theorem dX0_run_26 : decode cX0_run 26 = .ok (.getfield 7, 3) := by decide +kernel
theorem dX0_run_29 : decode cX0_run 29 = .ok (.aload_n 1, 1) := by decide +kernel
theorem dX0_run_30 : decode cX0_run 30 = .ok (.getfield 38, 3) := by decide +kernel
theorem dX0_run_33 : decode cX0_run 33 = .ok (.imul, 1) := by decide +kernel
theorem dX0_run_34 : decode cX0_run 34 = .ok (.aload_n 0, 1) := by decide +kernel
theorem dX0_run_35 : decode cX0_run 35 = .ok (.getfield 13, 3) := by decide +kernel
theorem dX0_run_38 : decode cX0_run 38 = .ok (.iadd, 1) := by decide +kernel
theorem dX0_run_39 : decode cX0_run 39 = .ok (.istore 4, 2) := by decide +kernel
theorem dX0_run_41 : decode cX0_run 41 = .ok (.iload_n 3, 1) := by decide +kernel
theorem dX0_run_42 : decode cX0_run 42 = .ok (.aload_n 0, 1) := by decide +kernel
theorem dX0_run_43 : decode cX0_run 43 = .ok (.getfield 28, 3) := by decide +kernel
theorem dX0_run_46 : decode cX0_run 46 = .ok (.if_icmp .ne 9, 3) := by decide +kernel
theorem dX0_run_49 : decode cX0_run 49 = .ok (.aload_n 0, 1) := by decide +kernel
theorem dX0_run_50 : decode cX0_run 50 = .ok (.iload 4, 2) := by decide +kernel
theorem dX0_run_52 : decode cX0_run 52 = .ok (.putfield 31, 3) := by decide +kernel
theorem dX0_run_55 : decode cX0_run 55 = .ok (.aload_n 0, 1) := by decide +kernel
theorem dX0_run_56 : decode cX0_run 56 = .ok (.iload_n 3, 1) := by decide +kernel
theorem dX0_run_57 : decode cX0_run 57 = .ok (.iconst 1, 1) := by decide +kernel
theorem dX0_run_58 : decode cX0_run 58 = .ok (.iadd, 1) := by decide +kernel
theorem dX0_run_59 : decode cX0_run 59 = .ok (.putfield 19, 3) := by decide +kernel
theorem dX0_run_62 : decode cX0_run 62 = .ok (.aload_n 0, 1) := by decide +kernel
theorem dX0_run_63 : decode cX0_run 63 = .ok (.dup, 1) := by decide +kernel
theorem dX0_run_64 : decode cX0_run 64 = .ok (.getfield 25, 3) := by decide +kernel
theorem dX0_run_67 : decode cX0_run 67 = .ok (.iconst 1, 1) := by decide +kernel
theorem dX0_run_68 : decode cX0_run 68 = .ok (.iload 4, 2) := by decide +kernel
theorem dX0_run_70 : decode cX0_run 70 = .ok (.ishl, 1) := by decide +kernel
theorem dX0_run_71 : decode cX0_run 71 = .ok (.ior, 1) := by decide +kernel
theorem dX0_run_72 : decode cX0_run 72 = .ok (.putfield 25, 3) := by decide +kernel
theorem dX0_run_75 : decode cX0_run 75 = .ok (.aload_n 1, 1) := by decide +kernel
theorem dX0_run_76 : decode cX0_run 76 = .ok (.iload 4, 2) := by decide +kernel
theorem dX0_run_78 : decode cX0_run 78 = .ok (.invokevirtual 43, 3) := by decide +kernel
theorem dX0_run_81 : decode cX0_run 81 = .ok (.aload_n 1, 1) := by decide +kernel
theorem dX0_run_82 : decode cX0_run 82 = .ok (.getfield 47, 3) := by decide +kernel
theorem dX0_run_85 : decode cX0_run 85 = .ok (.iload 4, 2) := by decide +kernel
theorem dX0_run_87 : decode cX0_run 87 = .ok (.iaload, 1) := by decide +kernel
theorem dX0_run_88 : decode cX0_run 88 = .ok (.istore 5, 2) := by decide +kernel
theorem dX0_run_90 : decode cX0_run 90 = .ok (.iload 5, 2) := by decide +kernel
theorem dX0_run_92 : decode cX0_run 92 = .ok (.invokestatic 51, 3) := by decide +kernel
theorem dX0_run_95 : decode cX0_run 95 = .ok (.ifCond .eq 6, 3) := by decide +kernel
theorem dX0_run_98 : decode cX0_run 98 = .ok (.bipush 100, 2) := by decide +kernel
theorem dX0_run_100 : decode cX0_run 100 = .ok (.ireturn, 1) := by decide +kernel
theorem dX0_run_101 : decode cX0_run 101 = .ok (.iload 5, 2) := by decide +kernel
theorem dX0_run_103 : decode cX0_run 103 = .ok (.invokestatic 55, 3) := by decide +kernel
theorem dX0_run_106 : decode cX0_run 106 = .ok (.ifCond .eq 29, 3) := by decide +kernel
theorem dX0_run_109 : decode cX0_run 109 = .ok (.aload_n 0, 1) := by decide +kernel
theorem dX0_run_110 : decode cX0_run 110 = .ok (.aload_n 1, 1) := by decide +kernel
theorem dX0_run_111 : decode cX0_run 111 = .ok (.iload 4, 2) := by decide +kernel
theorem dX0_run_113 : decode cX0_run 113 = .ok (.invokevirtual 58, 3) := by decide +kernel
theorem dX0_run_116 : decode cX0_run 116 = .ok (.invokevirtual 62, 3) := by decide +kernel
theorem dX0_run_119 : decode cX0_run 119 = .ok (.aload_n 0, 1) := by decide +kernel
theorem dX0_run_120 : decode cX0_run 120 = .ok (.dup, 1) := by decide +kernel
theorem dX0_run_121 : decode cX0_run 121 = .ok (.getfield 22, 3) := by decide +kernel
theorem dX0_run_124 : decode cX0_run 124 = .ok (.iconst 1, 1) := by decide +kernel
theorem dX0_run_125 : decode cX0_run 125 = .ok (.iadd, 1) := by decide +kernel
theorem dX0_run_126 : decode cX0_run 126 = .ok (.putfield 22, 3) := by decide +kernel
theorem dX0_run_129 : decode cX0_run 129 = .ok (.aload_n 1, 1) := by decide +kernel
theorem dX0_run_130 : decode cX0_run 130 = .ok (.iload 4, 2) := by decide +kernel
theorem dX0_run_132 : decode cX0_run 132 = .ok (.invokevirtual 65, 3) := by decide +kernel
theorem dX0_run_135 : decode cX0_run 135 = .ok (.aload_n 0, 1) := by decide +kernel
theorem dX0_run_136 : decode cX0_run 136 = .ok (.invokevirtual 68, 3) := by decide +kernel
theorem dX0_run_139 : decode cX0_run 139 = .ok (.aload_n 0, 1) := by decide +kernel
theorem dX0_run_140 : decode cX0_run 140 = .ok (.aload_n 1, 1) := by decide +kernel
theorem dX0_run_141 : decode cX0_run 141 = .ok (.invokevirtual 71, 3) := by decide +kernel
theorem dX0_run_144 : decode cX0_run 144 = .ok (.ifCond .eq 9, 3) := by decide +kernel
theorem dX0_run_147 : decode cX0_run 147 = .ok (.aload_n 0, 1) := by decide +kernel
theorem dX0_run_148 : decode cX0_run 148 = .ok (.aload_n 1, 1) := by decide +kernel
theorem dX0_run_149 : decode cX0_run 149 = .ok (.invokevirtual 75, 3) := by decide +kernel
theorem dX0_run_152 : decode cX0_run 152 = .ok (.ireturn, 1) := by decide +kernel
theorem dX0_run_153 : decode cX0_run 153 = .ok (.iinc 3 1, 3) := by decide +kernel
theorem dX0_run_156 : decode cX0_run 156 = .ok (.goto (-138), 3) := by decide +kernel
theorem dX0_run_159 : decode cX0_run 159 = .ok (.bipush 100, 2) := by decide +kernel
theorem dX0_run_161 : decode cX0_run 161 = .ok (.ireturn, 1) := by decide +kernel
theorem dX0_runBack_0 : decode cX0_runBack 0 = .ok (.aload_n 0, 1) := by decide +kernel
theorem dX0_runBack_1 : decode cX0_runBack 1 = .ok (.aload_n 1, 1) := by decide +kernel
theorem dX0_runBack_2 : decode cX0_runBack 2 = .ok (.iload_n 2, 1) := by decide +kernel
theorem dX0_runBack_3 : decode cX0_runBack 3 = .ok (.invokevirtual 34, 3) := by decide +kernel
theorem dX0_runBack_6 : decode cX0_runBack 6 = .ok (.iconst 0, 1) := by decide +kernel
theorem dX0_runBack_7 : decode cX0_runBack 7 = .ok (.istore_n 3, 1) := by decide +kernel
theorem dX0_runBack_8 : decode cX0_runBack 8 = .ok (.iload_n 3, 1) := by decide +kernel
theorem dX0_runBack_9 : decode cX0_runBack 9 = .ok (.sipush 5000, 3) := by decide +kernel
theorem dX0_runBack_12 : decode cX0_runBack 12 = .ok (.if_icmp .ge 93, 3) := by decide +kernel
theorem dX0_runBack_15 : decode cX0_runBack 15 = .ok (.aload_n 0, 1) := by decide +kernel
theorem dX0_runBack_16 : decode cX0_runBack 16 = .ok (.getfield 7, 3) := by decide +kernel
theorem dX0_runBack_19 : decode cX0_runBack 19 = .ok (.aload_n 1, 1) := by decide +kernel
theorem dX0_runBack_20 : decode cX0_runBack 20 = .ok (.getfield 38, 3) := by decide +kernel
theorem dX0_runBack_23 : decode cX0_runBack 23 = .ok (.imul, 1) := by decide +kernel
theorem dX0_runBack_24 : decode cX0_runBack 24 = .ok (.aload_n 0, 1) := by decide +kernel
theorem dX0_runBack_25 : decode cX0_runBack 25 = .ok (.getfield 13, 3) := by decide +kernel
theorem dX0_runBack_28 : decode cX0_runBack 28 = .ok (.iadd, 1) := by decide +kernel
theorem dX0_runBack_29 : decode cX0_runBack 29 = .ok (.istore 4, 2) := by decide +kernel
theorem dX0_runBack_31 : decode cX0_runBack 31 = .ok (.aload_n 1, 1) := by decide +kernel
theorem dX0_runBack_32 : decode cX0_runBack 32 = .ok (.getfield 47, 3) := by decide +kernel
theorem dX0_runBack_35 : decode cX0_runBack 35 = .ok (.iload 4, 2) := by decide +kernel
theorem dX0_runBack_37 : decode cX0_runBack 37 = .ok (.iaload, 1) := by decide +kernel
theorem dX0_runBack_38 : decode cX0_runBack 38 = .ok (.istore 5, 2) := by decide +kernel
theorem dX0_runBack_40 : decode cX0_runBack 40 = .ok (.iload 5, 2) := by decide +kernel
theorem dX0_runBack_42 : decode cX0_runBack 42 = .ok (.invokestatic 51, 3) := by decide +kernel
theorem dX0_runBack_45 : decode cX0_runBack 45 = .ok (.ifCond .eq 6, 3) := by decide +kernel
theorem dX0_runBack_48 : decode cX0_runBack 48 = .ok (.bipush 100, 2) := by decide +kernel
theorem dX0_runBack_50 : decode cX0_runBack 50 = .ok (.ireturn, 1) := by decide +kernel
theorem dX0_runBack_51 : decode cX0_runBack 51 = .ok (.aload_n 1, 1) := by decide +kernel
theorem dX0_runBack_52 : decode cX0_runBack 52 = .ok (.iload 4, 2) := by decide +kernel
theorem dX0_runBack_54 : decode cX0_runBack 54 = .ok (.invokevirtual 79, 3) := by decide +kernel
theorem dX0_runBack_57 : decode cX0_runBack 57 = .ok (.iload 5, 2) := by decide +kernel
theorem dX0_runBack_59 : decode cX0_runBack 59 = .ok (.invokestatic 55, 3) := by decide +kernel
theorem dX0_runBack_62 : decode cX0_runBack 62 = .ok (.ifCond .eq 19, 3) := by decide +kernel
theorem dX0_runBack_65 : decode cX0_runBack 65 = .ok (.aload_n 1, 1) := by decide +kernel
theorem dX0_runBack_66 : decode cX0_runBack 66 = .ok (.iload 4, 2) := by decide +kernel
theorem dX0_runBack_68 : decode cX0_runBack 68 = .ok (.invokevirtual 82, 3) := by decide +kernel
theorem dX0_runBack_71 : decode cX0_runBack 71 = .ok (.aload_n 0, 1) := by decide +kernel
theorem dX0_runBack_72 : decode cX0_runBack 72 = .ok (.aload_n 1, 1) := by decide +kernel
theorem dX0_runBack_73 : decode cX0_runBack 73 = .ok (.iload 4, 2) := by decide +kernel
theorem dX0_runBack_75 : decode cX0_runBack 75 = .ok (.invokevirtual 58, 3) := by decide +kernel
theorem dX0_runBack_78 : decode cX0_runBack 78 = .ok (.invokevirtual 62, 3) := by decide +kernel
theorem dX0_runBack_81 : decode cX0_runBack 81 = .ok (.aload_n 0, 1) := by decide +kernel
theorem dX0_runBack_82 : decode cX0_runBack 82 = .ok (.invokevirtual 68, 3) := by decide +kernel
theorem dX0_runBack_85 : decode cX0_runBack 85 = .ok (.aload_n 0, 1) := by decide +kernel
theorem dX0_runBack_86 : decode cX0_runBack 86 = .ok (.aload_n 1, 1) := by decide +kernel
theorem dX0_runBack_87 : decode cX0_runBack 87 = .ok (.invokevirtual 71, 3) := by decide +kernel
theorem dX0_runBack_90 : decode cX0_runBack 90 = .ok (.ifCond .eq 9, 3) := by decide +kernel
theorem dX0_runBack_93 : decode cX0_runBack 93 = .ok (.aload_n 0, 1) := by decide +kernel
theorem dX0_runBack_94 : decode cX0_runBack 94 = .ok (.aload_n 1, 1) := by decide +kernel
theorem dX0_runBack_95 : decode cX0_runBack 95 = .ok (.invokevirtual 75, 3) := by decide +kernel
theorem dX0_runBack_98 : decode cX0_runBack 98 = .ok (.ireturn, 1) := by decide +kernel
theorem dX0_runBack_99 : decode cX0_runBack 99 = .ok (.iinc 3 1, 3) := by decide +kernel
theorem dX0_runBack_102 : decode cX0_runBack 102 = .ok (.goto (-94), 3) := by decide +kernel
theorem dX0_runBack_105 : decode cX0_runBack 105 = .ok (.bipush 100, 2) := by decide +kernel
theorem dX0_runBack_107 : decode cX0_runBack 107 = .ok (.ireturn, 1) := by decide +kernel
theorem dX0_squareOnWay_0 : decode cX0_squareOnWay 0 = .ok (.aload_n 0, 1) := by decide +kernel
theorem dX0_squareOnWay_1 : decode cX0_squareOnWay 1 = .ok (.iload_n 3, 1) := by decide +kernel
theorem dX0_squareOnWay_2 : decode cX0_squareOnWay 2 = .ok (.putfield 28, 3) := by decide +kernel
theorem dX0_squareOnWay_5 : decode cX0_squareOnWay 5 = .ok (.aload_n 0, 1) := by decide +kernel
theorem dX0_squareOnWay_6 : decode cX0_squareOnWay 6 = .ok (.iconst (-1), 1) := by decide +kernel
theorem dX0_squareOnWay_7 : decode cX0_squareOnWay 7 = .ok (.putfield 31, 3) := by decide +kernel
theorem dX0_squareOnWay_10 : decode cX0_squareOnWay 10 = .ok (.aload_n 0, 1) := by decide +kernel
theorem dX0_squareOnWay_11 : decode cX0_squareOnWay 11 = .ok (.aload_n 1, 1) := by decide +kernel
theorem dX0_squareOnWay_12 : decode cX0_squareOnWay 12 = .ok (.iload_n 2, 1) := by decide +kernel
theorem dX0_squareOnWay_13 : decode cX0_squareOnWay 13 = .ok (.invokevirtual 85, 3) := by decide +kernel
theorem dX0_squareOnWay_16 : decode cX0_squareOnWay 16 = .ok (.pop, 1) := by decide +kernel
theorem dX0_squareOnWay_17 : decode cX0_squareOnWay 17 = .ok (.aload_n 0, 1) := by decide +kernel
theorem dX0_squareOnWay_18 : decode cX0_squareOnWay 18 = .ok (.iconst (-1), 1) := by decide +kernel
theorem dX0_squareOnWay_19 : decode cX0_squareOnWay 19 = .ok (.putfield 28, 3) := by decide +kernel
theorem dX0_squareOnWay_22 : decode cX0_squareOnWay 22 = .ok (.aload_n 0, 1) := by decide +kernel
theorem dX0_squareOnWay_23 : decode cX0_squareOnWay 23 = .ok (.getfield 31, 3) := by decide +kernel
theorem dX0_squareOnWay_26 : decode cX0_squareOnWay 26 = .ok (.ireturn, 1) := by decide +kernel
theorem dX0_enter_0 : decode cX0_enter 0 = .ok (.iload_n 2, 1) := by decide +kernel
theorem dX0_enter_1 : decode cX0_enter 1 = .ok (.aload_n 1, 1) := by decide +kernel
theorem dX0_enter_2 : decode cX0_enter 2 = .ok (.getfield 38, 3) := by decide +kernel
theorem dX0_enter_5 : decode cX0_enter 5 = .ok (.if_icmp .ge 13, 3) := by decide +kernel
theorem dX0_enter_8 : decode cX0_enter 8 = .ok (.aload_n 0, 1) := by decide +kernel
theorem dX0_enter_9 : decode cX0_enter 9 = .ok (.iconst 0, 1) := by decide +kernel
theorem dX0_enter_10 : decode cX0_enter 10 = .ok (.iload_n 2, 1) := by decide +kernel
theorem dX0_enter_11 : decode cX0_enter 11 = .ok (.iconst 2, 1) := by decide +kernel
theorem dX0_enter_12 : decode cX0_enter 12 = .ok (.invokevirtual 89, 3) := by decide +kernel
theorem dX0_enter_15 : decode cX0_enter 15 = .ok (.goto 95, 3) := by decide +kernel
theorem dX0_enter_18 : decode cX0_enter 18 = .ok (.iload_n 2, 1) := by decide +kernel
theorem dX0_enter_19 : decode cX0_enter 19 = .ok (.aload_n 1, 1) := by decide +kernel
theorem dX0_enter_20 : decode cX0_enter 20 = .ok (.getfield 38, 3) := by decide +kernel
theorem dX0_enter_23 : decode cX0_enter 23 = .ok (.aload_n 1, 1) := by decide +kernel
theorem dX0_enter_24 : decode cX0_enter 24 = .ok (.getfield 93, 3) := by decide +kernel
theorem dX0_enter_27 : decode cX0_enter 27 = .ok (.iadd, 1) := by decide +kernel
theorem dX0_enter_28 : decode cX0_enter 28 = .ok (.if_icmp .ge 23, 3) := by decide +kernel
theorem dX0_enter_31 : decode cX0_enter 31 = .ok (.aload_n 0, 1) := by decide +kernel
theorem dX0_enter_32 : decode cX0_enter 32 = .ok (.iload_n 2, 1) := by decide +kernel
theorem dX0_enter_33 : decode cX0_enter 33 = .ok (.aload_n 1, 1) := by decide +kernel
theorem dX0_enter_34 : decode cX0_enter 34 = .ok (.getfield 38, 3) := by decide +kernel
theorem dX0_enter_37 : decode cX0_enter 37 = .ok (.isub, 1) := by decide +kernel
theorem dX0_enter_38 : decode cX0_enter 38 = .ok (.aload_n 1, 1) := by decide +kernel
theorem dX0_enter_39 : decode cX0_enter 39 = .ok (.getfield 38, 3) := by decide +kernel
theorem dX0_enter_42 : decode cX0_enter 42 = .ok (.iconst 1, 1) := by decide +kernel
theorem dX0_enter_43 : decode cX0_enter 43 = .ok (.isub, 1) := by decide +kernel
theorem dX0_enter_44 : decode cX0_enter 44 = .ok (.iconst 3, 1) := by decide +kernel
theorem dX0_enter_45 : decode cX0_enter 45 = .ok (.invokevirtual 89, 3) := by decide +kernel
theorem dX0_enter_48 : decode cX0_enter 48 = .ok (.goto 62, 3) := by decide +kernel
theorem dX0_enter_51 : decode cX0_enter 51 = .ok (.iload_n 2, 1) := by decide +kernel
theorem dX0_enter_52 : decode cX0_enter 52 = .ok (.iconst 2, 1) := by decide +kernel
theorem dX0_enter_53 : decode cX0_enter 53 = .ok (.aload_n 1, 1) := by decide +kernel
theorem dX0_enter_54 : decode cX0_enter 54 = .ok (.getfield 38, 3) := by decide +kernel
theorem dX0_enter_57 : decode cX0_enter 57 = .ok (.imul, 1) := by decide +kernel
theorem dX0_enter_58 : decode cX0_enter 58 = .ok (.aload_n 1, 1) := by decide +kernel
theorem dX0_enter_59 : decode cX0_enter 59 = .ok (.getfield 93, 3) := by decide +kernel
theorem dX0_enter_62 : decode cX0_enter 62 = .ok (.iadd, 1) := by decide +kernel
theorem dX0_enter_63 : decode cX0_enter 63 = .ok (.if_icmp .ge 28, 3) := by decide +kernel
theorem dX0_enter_66 : decode cX0_enter 66 = .ok (.aload_n 0, 1) := by decide +kernel
theorem dX0_enter_67 : decode cX0_enter 67 = .ok (.aload_n 1, 1) := by decide +kernel
theorem dX0_enter_68 : decode cX0_enter 68 = .ok (.getfield 93, 3) := by decide +kernel
theorem dX0_enter_71 : decode cX0_enter 71 = .ok (.iconst 1, 1) := by decide +kernel
theorem dX0_enter_72 : decode cX0_enter 72 = .ok (.isub, 1) := by decide +kernel
theorem dX0_enter_73 : decode cX0_enter 73 = .ok (.iload_n 2, 1) := by decide +kernel
theorem dX0_enter_74 : decode cX0_enter 74 = .ok (.aload_n 1, 1) := by decide +kernel
theorem dX0_enter_75 : decode cX0_enter 75 = .ok (.getfield 38, 3) := by decide +kernel
theorem dX0_enter_78 : decode cX0_enter 78 = .ok (.isub, 1) := by decide +kernel
theorem dX0_enter_79 : decode cX0_enter 79 = .ok (.aload_n 1, 1) := by decide +kernel
theorem dX0_enter_80 : decode cX0_enter 80 = .ok (.getfield 93, 3) := by decide +kernel
theorem dX0_enter_83 : decode cX0_enter 83 = .ok (.isub, 1) := by decide +kernel
theorem dX0_enter_84 : decode cX0_enter 84 = .ok (.iconst 0, 1) := by decide +kernel
theorem dX0_enter_85 : decode cX0_enter 85 = .ok (.invokevirtual 89, 3) := by decide +kernel
theorem dX0_enter_88 : decode cX0_enter 88 = .ok (.goto 22, 3) := by decide +kernel
theorem dX0_enter_91 : decode cX0_enter 91 = .ok (.aload_n 0, 1) := by decide +kernel
theorem dX0_enter_92 : decode cX0_enter 92 = .ok (.iload_n 2, 1) := by decide +kernel
theorem dX0_enter_93 : decode cX0_enter 93 = .ok (.iconst 2, 1) := by decide +kernel
theorem dX0_enter_94 : decode cX0_enter 94 = .ok (.aload_n 1, 1) := by decide +kernel
theorem dX0_enter_95 : decode cX0_enter 95 = .ok (.getfield 38, 3) := by decide +kernel
theorem dX0_enter_98 : decode cX0_enter 98 = .ok (.imul, 1) := by decide +kernel
theorem dX0_enter_99 : decode cX0_enter 99 = .ok (.isub, 1) := by decide +kernel
theorem dX0_enter_100 : decode cX0_enter 100 = .ok (.aload_n 1, 1) := by decide +kernel
theorem dX0_enter_101 : decode cX0_enter 101 = .ok (.getfield 93, 3) := by decide +kernel
theorem dX0_enter_104 : decode cX0_enter 104 = .ok (.isub, 1) := by decide +kernel
theorem dX0_enter_105 : decode cX0_enter 105 = .ok (.iconst 0, 1) := by decide +kernel
theorem dX0_enter_106 : decode cX0_enter 106 = .ok (.iconst 1, 1) := by decide +kernel
theorem dX0_enter_107 : decode cX0_enter 107 = .ok (.invokevirtual 89, 3) := by decide +kernel
theorem dX0_enter_110 : decode cX0_enter 110 = .ok (.return_, 1) := by decide +kernel
theorem dX0_start_0 : decode cX0_start 0 = .ok (.aload_n 0, 1) := by decide +kernel
theorem dX0_start_1 : decode cX0_start 1 = .ok (.iload_n 1, 1) := by decide +kernel
theorem dX0_start_2 : decode cX0_start 2 = .ok (.putfield 7, 3) := by decide +kernel
theorem dX0_start_5 : decode cX0_start 5 = .ok (.aload_n 0, 1) := by decide +kernel
theorem dX0_start_6 : decode cX0_start 6 = .ok (.iload_n 2, 1) := by decide +kernel
theorem dX0_start_7 : decode cX0_start 7 = .ok (.putfield 13, 3) := by decide +kernel
theorem dX0_start_10 : decode cX0_start 10 = .ok (.aload_n 0, 1) := by decide +kernel
theorem dX0_start_11 : decode cX0_start 11 = .ok (.iload_n 3, 1) := by decide +kernel
theorem dX0_start_12 : decode cX0_start 12 = .ok (.putfield 16, 3) := by decide +kernel
theorem dX0_start_15 : decode cX0_start 15 = .ok (.return_, 1) := by decide +kernel
theorem dX0_bend_0 : decode cX0_bend 0 = .ok (.aload_n 0, 1) := by decide +kernel
theorem dX0_bend_1 : decode cX0_bend 1 = .ok (.iload_n 1, 1) := by decide +kernel
theorem dX0_bend_2 : decode cX0_bend 2 = .ok (.ifCond .ne 12, 3) := by decide +kernel
theorem dX0_bend_5 : decode cX0_bend 5 = .ok (.aload_n 0, 1) := by decide +kernel
theorem dX0_bend_6 : decode cX0_bend 6 = .ok (.getfield 16, 3) := by decide +kernel
theorem dX0_bend_9 : decode cX0_bend 9 = .ok (.iconst 1, 1) := by decide +kernel
theorem dX0_bend_10 : decode cX0_bend 10 = .ok (.ixor, 1) := by decide +kernel
theorem dX0_bend_11 : decode cX0_bend 11 = .ok (.goto 9, 3) := by decide +kernel
theorem dX0_bend_14 : decode cX0_bend 14 = .ok (.iconst 3, 1) := by decide +kernel
theorem dX0_bend_15 : decode cX0_bend 15 = .ok (.aload_n 0, 1) := by decide +kernel
theorem dX0_bend_16 : decode cX0_bend 16 = .ok (.getfield 16, 3) := by decide +kernel
theorem dX0_bend_19 : decode cX0_bend 19 = .ok (.isub, 1) := by decide +kernel
theorem dX0_bend_20 : decode cX0_bend 20 = .ok (.putfield 16, 3) := by decide +kernel
theorem dX0_bend_23 : decode cX0_bend 23 = .ok (.return_, 1) := by decide +kernel
theorem dX0_goOn_0 : decode cX0_goOn 0 = .ok (.aload_n 0, 1) := by decide +kernel
theorem dX0_goOn_1 : decode cX0_goOn 1 = .ok (.getfield 16, 3) := by decide +kernel
theorem dX0_goOn_4 : decode cX0_goOn 4 = .ok (.tableswitch 67 0 2 #[28, 41, 54], 28) := by decide +kernel
theorem dX0_goOn_32 : decode cX0_goOn 32 = .ok (.aload_n 0, 1) := by decide +kernel
theorem dX0_goOn_33 : decode cX0_goOn 33 = .ok (.dup, 1) := by decide +kernel
theorem dX0_goOn_34 : decode cX0_goOn 34 = .ok (.getfield 7, 3) := by decide +kernel
theorem dX0_goOn_37 : decode cX0_goOn 37 = .ok (.iconst 1, 1) := by decide +kernel
theorem dX0_goOn_38 : decode cX0_goOn 38 = .ok (.isub, 1) := by decide +kernel
theorem dX0_goOn_39 : decode cX0_goOn 39 = .ok (.putfield 7, 3) := by decide +kernel
theorem dX0_goOn_42 : decode cX0_goOn 42 = .ok (.goto 39, 3) := by decide +kernel
theorem dX0_goOn_45 : decode cX0_goOn 45 = .ok (.aload_n 0, 1) := by decide +kernel
theorem dX0_goOn_46 : decode cX0_goOn 46 = .ok (.dup, 1) := by decide +kernel
theorem dX0_goOn_47 : decode cX0_goOn 47 = .ok (.getfield 13, 3) := by decide +kernel
theorem dX0_goOn_50 : decode cX0_goOn 50 = .ok (.iconst 1, 1) := by decide +kernel
theorem dX0_goOn_51 : decode cX0_goOn 51 = .ok (.iadd, 1) := by decide +kernel
theorem dX0_goOn_52 : decode cX0_goOn 52 = .ok (.putfield 13, 3) := by decide +kernel
theorem dX0_goOn_55 : decode cX0_goOn 55 = .ok (.goto 26, 3) := by decide +kernel
theorem dX0_goOn_58 : decode cX0_goOn 58 = .ok (.aload_n 0, 1) := by decide +kernel
theorem dX0_goOn_59 : decode cX0_goOn 59 = .ok (.dup, 1) := by decide +kernel
theorem dX0_goOn_60 : decode cX0_goOn 60 = .ok (.getfield 7, 3) := by decide +kernel
theorem dX0_goOn_63 : decode cX0_goOn 63 = .ok (.iconst 1, 1) := by decide +kernel
theorem dX0_goOn_64 : decode cX0_goOn 64 = .ok (.iadd, 1) := by decide +kernel
theorem dX0_goOn_65 : decode cX0_goOn 65 = .ok (.putfield 7, 3) := by decide +kernel
theorem dX0_goOn_68 : decode cX0_goOn 68 = .ok (.goto 13, 3) := by decide +kernel
theorem dX0_goOn_71 : decode cX0_goOn 71 = .ok (.aload_n 0, 1) := by decide +kernel
theorem dX0_goOn_72 : decode cX0_goOn 72 = .ok (.dup, 1) := by decide +kernel
theorem dX0_goOn_73 : decode cX0_goOn 73 = .ok (.getfield 13, 3) := by decide +kernel
theorem dX0_goOn_76 : decode cX0_goOn 76 = .ok (.iconst 1, 1) := by decide +kernel
theorem dX0_goOn_77 : decode cX0_goOn 77 = .ok (.isub, 1) := by decide +kernel
theorem dX0_goOn_78 : decode cX0_goOn 78 = .ok (.putfield 13, 3) := by decide +kernel
theorem dX0_goOn_81 : decode cX0_goOn 81 = .ok (.return_, 1) := by decide +kernel
theorem dX0_isOutside_0 : decode cX0_isOutside 0 = .ok (.aload_n 0, 1) := by decide +kernel
theorem dX0_isOutside_1 : decode cX0_isOutside 1 = .ok (.getfield 7, 3) := by decide +kernel
theorem dX0_isOutside_4 : decode cX0_isOutside 4 = .ok (.ifCond .lt 32, 3) := by decide +kernel
theorem dX0_isOutside_7 : decode cX0_isOutside 7 = .ok (.aload_n 0, 1) := by decide +kernel
theorem dX0_isOutside_8 : decode cX0_isOutside 8 = .ok (.getfield 7, 3) := by decide +kernel
theorem dX0_isOutside_11 : decode cX0_isOutside 11 = .ok (.aload_n 1, 1) := by decide +kernel
theorem dX0_isOutside_12 : decode cX0_isOutside 12 = .ok (.getfield 93, 3) := by decide +kernel
theorem dX0_isOutside_15 : decode cX0_isOutside 15 = .ok (.if_icmp .ge 21, 3) := by decide +kernel
theorem dX0_isOutside_18 : decode cX0_isOutside 18 = .ok (.aload_n 0, 1) := by decide +kernel
theorem dX0_isOutside_19 : decode cX0_isOutside 19 = .ok (.getfield 13, 3) := by decide +kernel
theorem dX0_isOutside_22 : decode cX0_isOutside 22 = .ok (.ifCond .lt 14, 3) := by decide +kernel
theorem dX0_isOutside_25 : decode cX0_isOutside 25 = .ok (.aload_n 0, 1) := by decide +kernel
theorem dX0_isOutside_26 : decode cX0_isOutside 26 = .ok (.getfield 13, 3) := by decide +kernel
theorem dX0_isOutside_29 : decode cX0_isOutside 29 = .ok (.aload_n 1, 1) := by decide +kernel
theorem dX0_isOutside_30 : decode cX0_isOutside 30 = .ok (.getfield 38, 3) := by decide +kernel
theorem dX0_isOutside_33 : decode cX0_isOutside 33 = .ok (.if_icmp .lt 7, 3) := by decide +kernel
theorem dX0_isOutside_36 : decode cX0_isOutside 36 = .ok (.iconst 1, 1) := by decide +kernel
theorem dX0_isOutside_37 : decode cX0_isOutside 37 = .ok (.goto 4, 3) := by decide +kernel
theorem dX0_isOutside_40 : decode cX0_isOutside 40 = .ok (.iconst 0, 1) := by decide +kernel
theorem dX0_isOutside_41 : decode cX0_isOutside 41 = .ok (.ireturn, 1) := by decide +kernel
theorem dX0_windowHere_0 : decode cX0_windowHere 0 = .ok (.aload_n 0, 1) := by decide +kernel
theorem dX0_windowHere_1 : decode cX0_windowHere 1 = .ok (.getfield 7, 3) := by decide +kernel
theorem dX0_windowHere_4 : decode cX0_windowHere 4 = .ok (.ifCond .ge 8, 3) := by decide +kernel
theorem dX0_windowHere_7 : decode cX0_windowHere 7 = .ok (.aload_n 0, 1) := by decide +kernel
theorem dX0_windowHere_8 : decode cX0_windowHere 8 = .ok (.getfield 13, 3) := by decide +kernel
theorem dX0_windowHere_11 : decode cX0_windowHere 11 = .ok (.ireturn, 1) := by decide +kernel
theorem dX0_windowHere_12 : decode cX0_windowHere 12 = .ok (.aload_n 0, 1) := by decide +kernel
theorem dX0_windowHere_13 : decode cX0_windowHere 13 = .ok (.getfield 13, 3) := by decide +kernel
theorem dX0_windowHere_16 : decode cX0_windowHere 16 = .ok (.aload_n 1, 1) := by decide +kernel
theorem dX0_windowHere_17 : decode cX0_windowHere 17 = .ok (.getfield 38, 3) := by decide +kernel
theorem dX0_windowHere_20 : decode cX0_windowHere 20 = .ok (.if_icmp .lt 13, 3) := by decide +kernel
theorem dX0_windowHere_23 : decode cX0_windowHere 23 = .ok (.aload_n 1, 1) := by decide +kernel
theorem dX0_windowHere_24 : decode cX0_windowHere 24 = .ok (.getfield 38, 3) := by decide +kernel
theorem dX0_windowHere_27 : decode cX0_windowHere 27 = .ok (.aload_n 0, 1) := by decide +kernel
theorem dX0_windowHere_28 : decode cX0_windowHere 28 = .ok (.getfield 7, 3) := by decide +kernel
theorem dX0_windowHere_31 : decode cX0_windowHere 31 = .ok (.iadd, 1) := by decide +kernel
theorem dX0_windowHere_32 : decode cX0_windowHere 32 = .ok (.ireturn, 1) := by decide +kernel
theorem dX0_windowHere_33 : decode cX0_windowHere 33 = .ok (.aload_n 0, 1) := by decide +kernel
theorem dX0_windowHere_34 : decode cX0_windowHere 34 = .ok (.getfield 7, 3) := by decide +kernel
theorem dX0_windowHere_37 : decode cX0_windowHere 37 = .ok (.aload_n 1, 1) := by decide +kernel
theorem dX0_windowHere_38 : decode cX0_windowHere 38 = .ok (.getfield 93, 3) := by decide +kernel
theorem dX0_windowHere_41 : decode cX0_windowHere 41 = .ok (.if_icmp .lt 20, 3) := by decide +kernel
theorem dX0_windowHere_44 : decode cX0_windowHere 44 = .ok (.aload_n 1, 1) := by decide +kernel
theorem dX0_windowHere_45 : decode cX0_windowHere 45 = .ok (.getfield 38, 3) := by decide +kernel
theorem dX0_windowHere_48 : decode cX0_windowHere 48 = .ok (.aload_n 1, 1) := by decide +kernel
theorem dX0_windowHere_49 : decode cX0_windowHere 49 = .ok (.getfield 93, 3) := by decide +kernel
theorem dX0_windowHere_52 : decode cX0_windowHere 52 = .ok (.iadd, 1) := by decide +kernel
theorem dX0_windowHere_53 : decode cX0_windowHere 53 = .ok (.aload_n 0, 1) := by decide +kernel
theorem dX0_windowHere_54 : decode cX0_windowHere 54 = .ok (.getfield 13, 3) := by decide +kernel
theorem dX0_windowHere_57 : decode cX0_windowHere 57 = .ok (.iadd, 1) := by decide +kernel
theorem dX0_windowHere_58 : decode cX0_windowHere 58 = .ok (.goto 19, 3) := by decide +kernel
theorem dX0_windowHere_61 : decode cX0_windowHere 61 = .ok (.iconst 2, 1) := by decide +kernel
theorem dX0_windowHere_62 : decode cX0_windowHere 62 = .ok (.aload_n 1, 1) := by decide +kernel
theorem dX0_windowHere_63 : decode cX0_windowHere 63 = .ok (.getfield 38, 3) := by decide +kernel
theorem dX0_windowHere_66 : decode cX0_windowHere 66 = .ok (.imul, 1) := by decide +kernel
theorem dX0_windowHere_67 : decode cX0_windowHere 67 = .ok (.aload_n 1, 1) := by decide +kernel
theorem dX0_windowHere_68 : decode cX0_windowHere 68 = .ok (.getfield 93, 3) := by decide +kernel
theorem dX0_windowHere_71 : decode cX0_windowHere 71 = .ok (.iadd, 1) := by decide +kernel
theorem dX0_windowHere_72 : decode cX0_windowHere 72 = .ok (.aload_n 0, 1) := by decide +kernel
theorem dX0_windowHere_73 : decode cX0_windowHere 73 = .ok (.getfield 7, 3) := by decide +kernel
theorem dX0_windowHere_76 : decode cX0_windowHere 76 = .ok (.iadd, 1) := by decide +kernel
theorem dX0_windowHere_77 : decode cX0_windowHere 77 = .ok (.ireturn, 1) := by decide +kernel
theorem dX1_init_0 : decode cX1_init 0 = .ok (.aload_n 0, 1) := by decide +kernel
theorem dX1_init_1 : decode cX1_init 1 = .ok (.invokespecial 1, 3) := by decide +kernel
theorem dX1_init_4 : decode cX1_init 4 = .ok (.aload_n 0, 1) := by decide +kernel
theorem dX1_init_5 : decode cX1_init 5 = .ok (.new 7, 3) := by decide +kernel
theorem dX1_init_8 : decode cX1_init 8 = .ok (.dup, 1) := by decide +kernel
theorem dX1_init_9 : decode cX1_init 9 = .ok (.invokespecial 9, 3) := by decide +kernel
theorem dX1_init_12 : decode cX1_init 12 = .ok (.putfield 10, 3) := by decide +kernel
theorem dX1_init_15 : decode cX1_init 15 = .ok (.aload_n 0, 1) := by decide +kernel
theorem dX1_init_16 : decode cX1_init 16 = .ok (.new 16, 3) := by decide +kernel
theorem dX1_init_19 : decode cX1_init 19 = .ok (.dup, 1) := by decide +kernel
theorem dX1_init_20 : decode cX1_init 20 = .ok (.invokespecial 18, 3) := by decide +kernel
theorem dX1_init_23 : decode cX1_init 23 = .ok (.putfield 19, 3) := by decide +kernel
theorem dX1_init_26 : decode cX1_init 26 = .ok (.aload_n 0, 1) := by decide +kernel
theorem dX1_init_27 : decode cX1_init 27 = .ok (.iconst 5, 1) := by decide +kernel
theorem dX1_init_28 : decode cX1_init 28 = .ok (.newarray .int, 2) := by decide +kernel
theorem dX1_init_30 : decode cX1_init 30 = .ok (.putfield 23, 3) := by decide +kernel
theorem dX1_init_33 : decode cX1_init 33 = .ok (.aload_n 0, 1) := by decide +kernel
theorem dX1_init_34 : decode cX1_init 34 = .ok (.iconst 0, 1) := by decide +kernel
theorem dX1_init_35 : decode cX1_init 35 = .ok (.putfield 27, 3) := by decide +kernel
theorem dX1_init_38 : decode cX1_init 38 = .ok (.aload_n 0, 1) := by decide +kernel
theorem dX1_init_39 : decode cX1_init 39 = .ok (.iconst 0, 1) := by decide +kernel
theorem dX1_init_40 : decode cX1_init 40 = .ok (.putfield 31, 3) := by decide +kernel
theorem dX1_init_43 : decode cX1_init 43 = .ok (.aload_n 0, 1) := by decide +kernel
theorem dX1_init_44 : decode cX1_init 44 = .ok (.lconst 0, 1) := by decide +kernel
theorem dX1_init_45 : decode cX1_init 45 = .ok (.putfield 34, 3) := by decide +kernel
theorem dX1_init_48 : decode cX1_init 48 = .ok (.aload_n 0, 1) := by decide +kernel
theorem dX1_init_49 : decode cX1_init 49 = .ok (.bipush 20, 2) := by decide +kernel
theorem dX1_init_51 : decode cX1_init 51 = .ok (.newarray .int, 2) := by decide +kernel
theorem dX1_init_53 : decode cX1_init 53 = .ok (.putfield 38, 3) := by decide +kernel
theorem dX1_init_56 : decode cX1_init 56 = .ok (.aload_n 0, 1) := by decide +kernel
theorem dX1_init_57 : decode cX1_init 57 = .ok (.iconst 0, 1) := by decide +kernel
theorem dX1_init_58 : decode cX1_init 58 = .ok (.putfield 41, 3) := by decide +kernel
theorem dX1_init_61 : decode cX1_init 61 = .ok (.aload_n 0, 1) := by decide +kernel
theorem dX1_init_62 : decode cX1_init 62 = .ok (.iconst 1, 1) := by decide +kernel
theorem dX1_init_63 : decode cX1_init 63 = .ok (.putfield 44, 3) := by decide +kernel
theorem dX1_init_66 : decode cX1_init 66 = .ok (.aload_n 0, 1) := by decide +kernel
theorem dX1_init_67 : decode cX1_init 67 = .ok (.iconst 0, 1) := by decide +kernel
theorem dX1_init_68 : decode cX1_init 68 = .ok (.putfield 47, 3) := by decide +kernel
theorem dX1_init_71 : decode cX1_init 71 = .ok (.aload_n 0, 1) := by decide +kernel
theorem dX1_init_72 : decode cX1_init 72 = .ok (.iconst 0, 1) := by decide +kernel
theorem dX1_init_73 : decode cX1_init 73 = .ok (.putfield 50, 3) := by decide +kernel
theorem dX1_init_76 : decode cX1_init 76 = .ok (.return_, 1) := by decide +kernel
theorem dX1_suppose_0 : decode cX1_suppose 0 = .ok (.aload_n 0, 1) := by decide +kernel
theorem dX1_suppose_1 : decode cX1_suppose 1 = .ok (.getfield 10, 3) := by decide +kernel
theorem dX1_suppose_4 : decode cX1_suppose 4 = .ok (.aload_n 1, 1) := by decide +kernel
theorem dX1_suppose_5 : decode cX1_suppose 5 = .ok (.invokevirtual 53, 3) := by decide +kernel
theorem dX1_suppose_8 : decode cX1_suppose 8 = .ok (.aload_n 0, 1) := by decide +kernel
theorem dX1_suppose_9 : decode cX1_suppose 9 = .ok (.aload_n 1, 1) := by decide +kernel
theorem dX1_suppose_10 : decode cX1_suppose 10 = .ok (.getfield 57, 3) := by decide +kernel
theorem dX1_suppose_13 : decode cX1_suppose 13 = .ok (.putfield 31, 3) := by decide +kernel
theorem dX1_suppose_16 : decode cX1_suppose 16 = .ok (.aload_n 0, 1) := by decide +kernel
theorem dX1_suppose_17 : decode cX1_suppose 17 = .ok (.aload_n 1, 1) := by decide +kernel
theorem dX1_suppose_18 : decode cX1_suppose 18 = .ok (.getfield 60, 3) := by decide +kernel
theorem dX1_suppose_21 : decode cX1_suppose 21 = .ok (.putfield 34, 3) := by decide +kernel
theorem dX1_suppose_24 : decode cX1_suppose 24 = .ok (.aload_n 0, 1) := by decide +kernel
theorem dX1_suppose_25 : decode cX1_suppose 25 = .ok (.iconst 0, 1) := by decide +kernel
theorem dX1_suppose_26 : decode cX1_suppose 26 = .ok (.putfield 27, 3) := by decide +kernel
theorem dX1_suppose_29 : decode cX1_suppose 29 = .ok (.iconst 0, 1) := by decide +kernel
theorem dX1_suppose_30 : decode cX1_suppose 30 = .ok (.istore_n 3, 1) := by decide +kernel
theorem dX1_suppose_31 : decode cX1_suppose 31 = .ok (.iload_n 3, 1) := by decide +kernel
theorem dX1_suppose_32 : decode cX1_suppose 32 = .ok (.aload_n 1, 1) := by decide +kernel
theorem dX1_suppose_33 : decode cX1_suppose 33 = .ok (.invokevirtual 63, 3) := by decide +kernel
theorem dX1_suppose_36 : decode cX1_suppose 36 = .ok (.if_icmp .ge 58, 3) := by decide +kernel
theorem dX1_suppose_39 : decode cX1_suppose 39 = .ok (.aload_n 0, 1) := by decide +kernel
theorem dX1_suppose_40 : decode cX1_suppose 40 = .ok (.getfield 27, 3) := by decide +kernel
theorem dX1_suppose_43 : decode cX1_suppose 43 = .ok (.iconst 5, 1) := by decide +kernel
theorem dX1_suppose_44 : decode cX1_suppose 44 = .ok (.if_icmp .ge 50, 3) := by decide +kernel
theorem dX1_suppose_47 : decode cX1_suppose 47 = .ok (.iload_n 2, 1) := by decide +kernel
theorem dX1_suppose_48 : decode cX1_suppose 48 = .ok (.iload_n 3, 1) := by decide +kernel
theorem dX1_suppose_49 : decode cX1_suppose 49 = .ok (.iushr, 1) := by decide +kernel
theorem dX1_suppose_50 : decode cX1_suppose 50 = .ok (.iconst 1, 1) := by decide +kernel
theorem dX1_suppose_51 : decode cX1_suppose 51 = .ok (.iand, 1) := by decide +kernel
theorem dX1_suppose_52 : decode cX1_suppose 52 = .ok (.iconst 1, 1) := by decide +kernel
theorem dX1_suppose_53 : decode cX1_suppose 53 = .ok (.if_icmp .ne 35, 3) := by decide +kernel
theorem dX1_suppose_56 : decode cX1_suppose 56 = .ok (.aload_n 1, 1) := by decide +kernel
theorem dX1_suppose_57 : decode cX1_suppose 57 = .ok (.getfield 67, 3) := by decide +kernel
theorem dX1_suppose_60 : decode cX1_suppose 60 = .ok (.iload_n 3, 1) := by decide +kernel
theorem dX1_suppose_61 : decode cX1_suppose 61 = .ok (.iaload, 1) := by decide +kernel
theorem dX1_suppose_62 : decode cX1_suppose 62 = .ok (.invokestatic 70, 3) := by decide +kernel
theorem dX1_suppose_65 : decode cX1_suppose 65 = .ok (.ifCond .eq 23, 3) := by decide +kernel
theorem dX1_suppose_68 : decode cX1_suppose 68 = .ok (.aload_n 0, 1) := by decide +kernel
theorem dX1_suppose_69 : decode cX1_suppose 69 = .ok (.getfield 23, 3) := by decide +kernel
theorem dX1_suppose_72 : decode cX1_suppose 72 = .ok (.aload_n 0, 1) := by decide +kernel
theorem dX1_suppose_73 : decode cX1_suppose 73 = .ok (.getfield 27, 3) := by decide +kernel
theorem dX1_suppose_76 : decode cX1_suppose 76 = .ok (.iload_n 3, 1) := by decide +kernel
theorem dX1_suppose_77 : decode cX1_suppose 77 = .ok (.iastore, 1) := by decide +kernel
theorem dX1_suppose_78 : decode cX1_suppose 78 = .ok (.aload_n 0, 1) := by decide +kernel
theorem dX1_suppose_79 : decode cX1_suppose 79 = .ok (.dup, 1) := by decide +kernel
theorem dX1_suppose_80 : decode cX1_suppose 80 = .ok (.getfield 27, 3) := by decide +kernel
theorem dX1_suppose_83 : decode cX1_suppose 83 = .ok (.iconst 1, 1) := by decide +kernel
theorem dX1_suppose_84 : decode cX1_suppose 84 = .ok (.iadd, 1) := by decide +kernel
theorem dX1_suppose_85 : decode cX1_suppose 85 = .ok (.putfield 27, 3) := by decide +kernel
theorem dX1_suppose_88 : decode cX1_suppose 88 = .ok (.iinc 3 1, 3) := by decide +kernel
theorem dX1_suppose_91 : decode cX1_suppose 91 = .ok (.goto (-60), 3) := by decide +kernel
theorem dX1_suppose_94 : decode cX1_suppose 94 = .ok (.return_, 1) := by decide +kernel
theorem dX1_choices_0 : decode cX1_choices 0 = .ok (.iconst 1, 1) := by decide +kernel
theorem dX1_choices_1 : decode cX1_choices 1 = .ok (.aload_n 0, 1) := by decide +kernel
theorem dX1_choices_2 : decode cX1_choices 2 = .ok (.getfield 27, 3) := by decide +kernel
theorem dX1_choices_5 : decode cX1_choices 5 = .ok (.ishl, 1) := by decide +kernel
theorem dX1_choices_6 : decode cX1_choices 6 = .ok (.ireturn, 1) := by decide +kernel
theorem dX1_standBy_0 : decode cX1_standBy 0 = .ok (.aload_n 0, 1) := by decide +kernel
theorem dX1_standBy_1 : decode cX1_standBy 1 = .ok (.getfield 31, 3) := by decide +kernel
theorem dX1_standBy_4 : decode cX1_standBy 4 = .ok (.istore_n 2, 1) := by decide +kernel
theorem dX1_standBy_5 : decode cX1_standBy 5 = .ok (.iconst 0, 1) := by decide +kernel
theorem dX1_standBy_6 : decode cX1_standBy 6 = .ok (.istore_n 3, 1) := by decide +kernel
theorem dX1_standBy_7 : decode cX1_standBy 7 = .ok (.iload_n 3, 1) := by decide +kernel
theorem dX1_standBy_8 : decode cX1_standBy 8 = .ok (.aload_n 0, 1) := by decide +kernel
theorem dX1_standBy_9 : decode cX1_standBy 9 = .ok (.getfield 27, 3) := by decide +kernel
theorem dX1_standBy_12 : decode cX1_standBy 12 = .ok (.if_icmp .ge 35, 3) := by decide +kernel
theorem dX1_standBy_15 : decode cX1_standBy 15 = .ok (.iload_n 2, 1) := by decide +kernel
theorem dX1_standBy_16 : decode cX1_standBy 16 = .ok (.iconst 1, 1) := by decide +kernel
theorem dX1_standBy_17 : decode cX1_standBy 17 = .ok (.aload_n 0, 1) := by decide +kernel
theorem dX1_standBy_18 : decode cX1_standBy 18 = .ok (.getfield 23, 3) := by decide +kernel
theorem dX1_standBy_21 : decode cX1_standBy 21 = .ok (.iload_n 3, 1) := by decide +kernel
theorem dX1_standBy_22 : decode cX1_standBy 22 = .ok (.iaload, 1) := by decide +kernel
theorem dX1_standBy_23 : decode cX1_standBy 23 = .ok (.ishl, 1) := by decide +kernel
theorem dX1_standBy_24 : decode cX1_standBy 24 = .ok (.iconst (-1), 1) := by decide +kernel
theorem dX1_standBy_25 : decode cX1_standBy 25 = .ok (.ixor, 1) := by decide +kernel
theorem dX1_standBy_26 : decode cX1_standBy 26 = .ok (.iand, 1) := by decide +kernel
theorem dX1_standBy_27 : decode cX1_standBy 27 = .ok (.iload_n 1, 1) := by decide +kernel
theorem dX1_standBy_28 : decode cX1_standBy 28 = .ok (.iload_n 3, 1) := by decide +kernel
theorem dX1_standBy_29 : decode cX1_standBy 29 = .ok (.iushr, 1) := by decide +kernel
theorem dX1_standBy_30 : decode cX1_standBy 30 = .ok (.iconst 1, 1) := by decide +kernel
theorem dX1_standBy_31 : decode cX1_standBy 31 = .ok (.iand, 1) := by decide +kernel
theorem dX1_standBy_32 : decode cX1_standBy 32 = .ok (.aload_n 0, 1) := by decide +kernel
theorem dX1_standBy_33 : decode cX1_standBy 33 = .ok (.getfield 23, 3) := by decide +kernel
theorem dX1_standBy_36 : decode cX1_standBy 36 = .ok (.iload_n 3, 1) := by decide +kernel
theorem dX1_standBy_37 : decode cX1_standBy 37 = .ok (.iaload, 1) := by decide +kernel
theorem dX1_standBy_38 : decode cX1_standBy 38 = .ok (.ishl, 1) := by decide +kernel
theorem dX1_standBy_39 : decode cX1_standBy 39 = .ok (.ior, 1) := by decide +kernel
theorem dX1_standBy_40 : decode cX1_standBy 40 = .ok (.istore_n 2, 1) := by decide +kernel
theorem dX1_standBy_41 : decode cX1_standBy 41 = .ok (.iinc 3 1, 3) := by decide +kernel
theorem dX1_standBy_44 : decode cX1_standBy 44 = .ok (.goto (-37), 3) := by decide +kernel
theorem dX1_standBy_47 : decode cX1_standBy 47 = .ok (.aload_n 0, 1) := by decide +kernel
theorem dX1_standBy_48 : decode cX1_standBy 48 = .ok (.getfield 10, 3) := by decide +kernel
theorem dX1_standBy_51 : decode cX1_standBy 51 = .ok (.iload_n 2, 1) := by decide +kernel
theorem dX1_standBy_52 : decode cX1_standBy 52 = .ok (.aload_n 0, 1) := by decide +kernel
theorem dX1_standBy_53 : decode cX1_standBy 53 = .ok (.getfield 34, 3) := by decide +kernel
theorem dX1_standBy_56 : decode cX1_standBy 56 = .ok (.invokevirtual 74, 3) := by decide +kernel
theorem dX1_standBy_59 : decode cX1_standBy 59 = .ok (.return_, 1) := by decide +kernel
theorem dX1_weigh_0 : decode cX1_weigh 0 = .ok (.aload_n 0, 1) := by decide +kernel
theorem dX1_weigh_1 : decode cX1_weigh 1 = .ok (.iconst 0, 1) := by decide +kernel
theorem dX1_weigh_2 : decode cX1_weigh 2 = .ok (.putfield 41, 3) := by decide +kernel
theorem dX1_weigh_5 : decode cX1_weigh 5 = .ok (.aload_n 0, 1) := by decide +kernel
theorem dX1_weigh_6 : decode cX1_weigh 6 = .ok (.aload_n 0, 1) := by decide +kernel
theorem dX1_weigh_7 : decode cX1_weigh 7 = .ok (.invokevirtual 78, 3) := by decide +kernel
theorem dX1_weigh_10 : decode cX1_weigh 10 = .ok (.putfield 44, 3) := by decide +kernel
theorem dX1_weigh_13 : decode cX1_weigh 13 = .ok (.iconst 0, 1) := by decide +kernel
theorem dX1_weigh_14 : decode cX1_weigh 14 = .ok (.istore_n 3, 1) := by decide +kernel
theorem dX1_weigh_15 : decode cX1_weigh 15 = .ok (.iload_n 3, 1) := by decide +kernel
theorem dX1_weigh_16 : decode cX1_weigh 16 = .ok (.aload_n 0, 1) := by decide +kernel
theorem dX1_weigh_17 : decode cX1_weigh 17 = .ok (.invokevirtual 78, 3) := by decide +kernel
theorem dX1_weigh_20 : decode cX1_weigh 20 = .ok (.if_icmp .ge 44, 3) := by decide +kernel
theorem dX1_weigh_23 : decode cX1_weigh 23 = .ok (.aload_n 0, 1) := by decide +kernel
theorem dX1_weigh_24 : decode cX1_weigh 24 = .ok (.iload_n 3, 1) := by decide +kernel
theorem dX1_weigh_25 : decode cX1_weigh 25 = .ok (.invokevirtual 81, 3) := by decide +kernel
theorem dX1_weigh_28 : decode cX1_weigh 28 = .ok (.aload_n 0, 1) := by decide +kernel
theorem dX1_weigh_29 : decode cX1_weigh 29 = .ok (.dup, 1) := by decide +kernel
theorem dX1_weigh_30 : decode cX1_weigh 30 = .ok (.getfield 41, 3) := by decide +kernel
theorem dX1_weigh_33 : decode cX1_weigh 33 = .ok (.aload_n 0, 1) := by decide +kernel
theorem dX1_weigh_34 : decode cX1_weigh 34 = .ok (.getfield 19, 3) := by decide +kernel
theorem dX1_weigh_37 : decode cX1_weigh 37 = .ok (.aload_n 0, 1) := by decide +kernel
theorem dX1_weigh_38 : decode cX1_weigh 38 = .ok (.getfield 10, 3) := by decide +kernel
theorem dX1_weigh_41 : decode cX1_weigh 41 = .ok (.iload_n 1, 1) := by decide +kernel
theorem dX1_weigh_42 : decode cX1_weigh 42 = .ok (.invokevirtual 85, 3) := by decide +kernel
theorem dX1_weigh_45 : decode cX1_weigh 45 = .ok (.iload_n 2, 1) := by decide +kernel
theorem dX1_weigh_46 : decode cX1_weigh 46 = .ok (.if_icmp .ne 7, 3) := by decide +kernel
theorem dX1_weigh_49 : decode cX1_weigh 49 = .ok (.iconst 1, 1) := by decide +kernel
theorem dX1_weigh_50 : decode cX1_weigh 50 = .ok (.goto 4, 3) := by decide +kernel
theorem dX1_weigh_53 : decode cX1_weigh 53 = .ok (.iconst 0, 1) := by decide +kernel
theorem dX1_weigh_54 : decode cX1_weigh 54 = .ok (.iadd, 1) := by decide +kernel
theorem dX1_weigh_55 : decode cX1_weigh 55 = .ok (.putfield 41, 3) := by decide +kernel
theorem dX1_weigh_58 : decode cX1_weigh 58 = .ok (.iinc 3 1, 3) := by decide +kernel
theorem dX1_weigh_61 : decode cX1_weigh 61 = .ok (.goto (-46), 3) := by decide +kernel
theorem dX1_weigh_64 : decode cX1_weigh 64 = .ok (.iconst 0, 1) := by decide +kernel
theorem dX1_weigh_65 : decode cX1_weigh 65 = .ok (.istore_n 3, 1) := by decide +kernel
theorem dX1_weigh_66 : decode cX1_weigh 66 = .ok (.iload_n 3, 1) := by decide +kernel
theorem dX1_weigh_67 : decode cX1_weigh 67 = .ok (.iconst 5, 1) := by decide +kernel
theorem dX1_weigh_68 : decode cX1_weigh 68 = .ok (.if_icmp .ge 43, 3) := by decide +kernel
theorem dX1_weigh_71 : decode cX1_weigh 71 = .ok (.aload_n 0, 1) := by decide +kernel
theorem dX1_weigh_72 : decode cX1_weigh 72 = .ok (.getfield 41, 3) := by decide +kernel
theorem dX1_weigh_75 : decode cX1_weigh 75 = .ok (.aload_n 0, 1) := by decide +kernel
theorem dX1_weigh_76 : decode cX1_weigh 76 = .ok (.getfield 44, 3) := by decide +kernel
theorem dX1_weigh_79 : decode cX1_weigh 79 = .ok (.ior, 1) := by decide +kernel
theorem dX1_weigh_80 : decode cX1_weigh 80 = .ok (.iconst 1, 1) := by decide +kernel
theorem dX1_weigh_81 : decode cX1_weigh 81 = .ok (.iand, 1) := by decide +kernel
theorem dX1_weigh_82 : decode cX1_weigh 82 = .ok (.ifCond .ne 29, 3) := by decide +kernel
theorem dX1_weigh_85 : decode cX1_weigh 85 = .ok (.aload_n 0, 1) := by decide +kernel
theorem dX1_weigh_86 : decode cX1_weigh 86 = .ok (.dup, 1) := by decide +kernel
theorem dX1_weigh_87 : decode cX1_weigh 87 = .ok (.getfield 41, 3) := by decide +kernel
theorem dX1_weigh_90 : decode cX1_weigh 90 = .ok (.iconst 2, 1) := by decide +kernel
theorem dX1_weigh_91 : decode cX1_weigh 91 = .ok (.idiv, 1) := by decide +kernel
theorem dX1_weigh_92 : decode cX1_weigh 92 = .ok (.putfield 41, 3) := by decide +kernel
theorem dX1_weigh_95 : decode cX1_weigh 95 = .ok (.aload_n 0, 1) := by decide +kernel
theorem dX1_weigh_96 : decode cX1_weigh 96 = .ok (.dup, 1) := by decide +kernel
theorem dX1_weigh_97 : decode cX1_weigh 97 = .ok (.getfield 44, 3) := by decide +kernel
theorem dX1_weigh_100 : decode cX1_weigh 100 = .ok (.iconst 2, 1) := by decide +kernel
theorem dX1_weigh_101 : decode cX1_weigh 101 = .ok (.idiv, 1) := by decide +kernel
theorem dX1_weigh_102 : decode cX1_weigh 102 = .ok (.putfield 44, 3) := by decide +kernel
theorem dX1_weigh_105 : decode cX1_weigh 105 = .ok (.iinc 3 1, 3) := by decide +kernel
theorem dX1_weigh_108 : decode cX1_weigh 108 = .ok (.goto (-42), 3) := by decide +kernel
theorem dX1_weigh_111 : decode cX1_weigh 111 = .ok (.return_, 1) := by decide +kernel
theorem dX1_canRead_0 : decode cX1_canRead 0 = .ok (.iconst 0, 1) := by decide +kernel
theorem dX1_canRead_1 : decode cX1_canRead 1 = .ok (.istore_n 3, 1) := by decide +kernel
theorem dX1_canRead_2 : decode cX1_canRead 2 = .ok (.iload_n 3, 1) := by decide +kernel
theorem dX1_canRead_3 : decode cX1_canRead 3 = .ok (.iconst 1, 1) := by decide +kernel
theorem dX1_canRead_4 : decode cX1_canRead 4 = .ok (.iadd, 1) := by decide +kernel
theorem dX1_canRead_5 : decode cX1_canRead 5 = .ok (.aload_n 1, 1) := by decide +kernel
theorem dX1_canRead_6 : decode cX1_canRead 6 = .ok (.getfield 89, 3) := by decide +kernel
theorem dX1_canRead_9 : decode cX1_canRead 9 = .ok (.if_icmp .ge 62, 3) := by decide +kernel
theorem dX1_canRead_12 : decode cX1_canRead 12 = .ok (.aload_n 1, 1) := by decide +kernel
theorem dX1_canRead_13 : decode cX1_canRead 13 = .ok (.getfield 94, 3) := by decide +kernel
theorem dX1_canRead_16 : decode cX1_canRead 16 = .ok (.iload_n 3, 1) := by decide +kernel
theorem dX1_canRead_17 : decode cX1_canRead 17 = .ok (.iconst 1, 1) := by decide +kernel
theorem dX1_canRead_18 : decode cX1_canRead 18 = .ok (.iadd, 1) := by decide +kernel
theorem dX1_canRead_19 : decode cX1_canRead 19 = .ok (.iaload, 1) := by decide +kernel
theorem dX1_canRead_20 : decode cX1_canRead 20 = .ok (.istore 4, 2) := by decide +kernel
theorem dX1_canRead_22 : decode cX1_canRead 22 = .ok (.aload_n 2, 1) := by decide +kernel
theorem dX1_canRead_23 : decode cX1_canRead 23 = .ok (.iload 4, 2) := by decide +kernel
theorem dX1_canRead_25 : decode cX1_canRead 25 = .ok (.invokevirtual 97, 3) := by decide +kernel
theorem dX1_canRead_28 : decode cX1_canRead 28 = .ok (.ifCond .ne 10, 3) := by decide +kernel
theorem dX1_canRead_31 : decode cX1_canRead 31 = .ok (.iload 4, 2) := by decide +kernel
theorem dX1_canRead_33 : decode cX1_canRead 33 = .ok (.bipush 100, 2) := by decide +kernel
theorem dX1_canRead_35 : decode cX1_canRead 35 = .ok (.if_icmp .ne 7, 3) := by decide +kernel
theorem dX1_canRead_38 : decode cX1_canRead 38 = .ok (.iconst 1, 1) := by decide +kernel
theorem dX1_canRead_39 : decode cX1_canRead 39 = .ok (.goto 4, 3) := by decide +kernel
theorem dX1_canRead_42 : decode cX1_canRead 42 = .ok (.iconst 0, 1) := by decide +kernel
theorem dX1_canRead_43 : decode cX1_canRead 43 = .ok (.istore 5, 2) := by decide +kernel
theorem dX1_canRead_45 : decode cX1_canRead 45 = .ok (.aload_n 2, 1) := by decide +kernel
theorem dX1_canRead_46 : decode cX1_canRead 46 = .ok (.aload_n 1, 1) := by decide +kernel
theorem dX1_canRead_47 : decode cX1_canRead 47 = .ok (.getfield 94, 3) := by decide +kernel
theorem dX1_canRead_50 : decode cX1_canRead 50 = .ok (.iload_n 3, 1) := by decide +kernel
theorem dX1_canRead_51 : decode cX1_canRead 51 = .ok (.iaload, 1) := by decide +kernel
theorem dX1_canRead_52 : decode cX1_canRead 52 = .ok (.invokevirtual 97, 3) := by decide +kernel
theorem dX1_canRead_55 : decode cX1_canRead 55 = .ok (.ifCond .eq 8, 3) := by decide +kernel
theorem dX1_canRead_58 : decode cX1_canRead 58 = .ok (.iload 5, 2) := by decide +kernel
theorem dX1_canRead_60 : decode cX1_canRead 60 = .ok (.ifCond .ne 5, 3) := by decide +kernel
theorem dX1_canRead_63 : decode cX1_canRead 63 = .ok (.iconst 0, 1) := by decide +kernel
theorem dX1_canRead_64 : decode cX1_canRead 64 = .ok (.ireturn, 1) := by decide +kernel
theorem dX1_canRead_65 : decode cX1_canRead 65 = .ok (.iinc 3 2, 3) := by decide +kernel
theorem dX1_canRead_68 : decode cX1_canRead 68 = .ok (.goto (-66), 3) := by decide +kernel
theorem dX1_canRead_71 : decode cX1_canRead 71 = .ok (.aload_n 1, 1) := by decide +kernel
theorem dX1_canRead_72 : decode cX1_canRead 72 = .ok (.invokevirtual 100, 3) := by decide +kernel
theorem dX1_canRead_75 : decode cX1_canRead 75 = .ok (.ifCond .ne 7, 3) := by decide +kernel
theorem dX1_canRead_78 : decode cX1_canRead 78 = .ok (.iconst 1, 1) := by decide +kernel
theorem dX1_canRead_79 : decode cX1_canRead 79 = .ok (.goto 4, 3) := by decide +kernel
theorem dX1_canRead_82 : decode cX1_canRead 82 = .ok (.iconst 0, 1) := by decide +kernel
theorem dX1_canRead_83 : decode cX1_canRead 83 = .ok (.ireturn, 1) := by decide +kernel
theorem dX1_fitting_0 : decode cX1_fitting 0 = .ok (.iconst 0, 1) := by decide +kernel
theorem dX1_fitting_1 : decode cX1_fitting 1 = .ok (.istore_n 2, 1) := by decide +kernel
theorem dX1_fitting_2 : decode cX1_fitting 2 = .ok (.iconst 0, 1) := by decide +kernel
theorem dX1_fitting_3 : decode cX1_fitting 3 = .ok (.istore_n 3, 1) := by decide +kernel
theorem dX1_fitting_4 : decode cX1_fitting 4 = .ok (.iload_n 3, 1) := by decide +kernel
theorem dX1_fitting_5 : decode cX1_fitting 5 = .ok (.aload_n 0, 1) := by decide +kernel
theorem dX1_fitting_6 : decode cX1_fitting 6 = .ok (.invokevirtual 78, 3) := by decide +kernel
theorem dX1_fitting_9 : decode cX1_fitting 9 = .ok (.if_icmp .ge 26, 3) := by decide +kernel
theorem dX1_fitting_12 : decode cX1_fitting 12 = .ok (.iload_n 2, 1) := by decide +kernel
theorem dX1_fitting_13 : decode cX1_fitting 13 = .ok (.aload_n 0, 1) := by decide +kernel
theorem dX1_fitting_14 : decode cX1_fitting 14 = .ok (.aload_n 1, 1) := by decide +kernel
theorem dX1_fitting_15 : decode cX1_fitting 15 = .ok (.iload_n 3, 1) := by decide +kernel
theorem dX1_fitting_16 : decode cX1_fitting 16 = .ok (.invokevirtual 104, 3) := by decide +kernel
theorem dX1_fitting_19 : decode cX1_fitting 19 = .ok (.ifCond .eq 7, 3) := by decide +kernel
theorem dX1_fitting_22 : decode cX1_fitting 22 = .ok (.iconst 1, 1) := by decide +kernel
theorem dX1_fitting_23 : decode cX1_fitting 23 = .ok (.goto 4, 3) := by decide +kernel
theorem dX1_fitting_26 : decode cX1_fitting 26 = .ok (.iconst 0, 1) := by decide +kernel
theorem dX1_fitting_27 : decode cX1_fitting 27 = .ok (.iadd, 1) := by decide +kernel
theorem dX1_fitting_28 : decode cX1_fitting 28 = .ok (.istore_n 2, 1) := by decide +kernel
theorem dX1_fitting_29 : decode cX1_fitting 29 = .ok (.iinc 3 1, 3) := by decide +kernel
theorem dX1_fitting_32 : decode cX1_fitting 32 = .ok (.goto (-28), 3) := by decide +kernel
theorem dX1_fitting_35 : decode cX1_fitting 35 = .ok (.iload_n 2, 1) := by decide +kernel
theorem dX1_fitting_36 : decode cX1_fitting 36 = .ok (.ireturn, 1) := by decide +kernel
theorem dX1_isFitting_0 : decode cX1_isFitting 0 = .ok (.aload_n 0, 1) := by decide +kernel
theorem dX1_isFitting_1 : decode cX1_isFitting 1 = .ok (.iload_n 2, 1) := by decide +kernel
theorem dX1_isFitting_2 : decode cX1_isFitting 2 = .ok (.invokevirtual 81, 3) := by decide +kernel
theorem dX1_isFitting_5 : decode cX1_isFitting 5 = .ok (.iconst 0, 1) := by decide +kernel
theorem dX1_isFitting_6 : decode cX1_isFitting 6 = .ok (.istore_n 3, 1) := by decide +kernel
theorem dX1_isFitting_7 : decode cX1_isFitting 7 = .ok (.iload_n 3, 1) := by decide +kernel
theorem dX1_isFitting_8 : decode cX1_isFitting 8 = .ok (.iconst 1, 1) := by decide +kernel
theorem dX1_isFitting_9 : decode cX1_isFitting 9 = .ok (.iadd, 1) := by decide +kernel
theorem dX1_isFitting_10 : decode cX1_isFitting 10 = .ok (.aload_n 1, 1) := by decide +kernel
theorem dX1_isFitting_11 : decode cX1_isFitting 11 = .ok (.getfield 89, 3) := by decide +kernel
theorem dX1_isFitting_14 : decode cX1_isFitting 14 = .ok (.if_icmp .ge 39, 3) := by decide +kernel
theorem dX1_isFitting_17 : decode cX1_isFitting 17 = .ok (.aload_n 0, 1) := by decide +kernel
theorem dX1_isFitting_18 : decode cX1_isFitting 18 = .ok (.getfield 19, 3) := by decide +kernel
theorem dX1_isFitting_21 : decode cX1_isFitting 21 = .ok (.aload_n 0, 1) := by decide +kernel
theorem dX1_isFitting_22 : decode cX1_isFitting 22 = .ok (.getfield 10, 3) := by decide +kernel
theorem dX1_isFitting_25 : decode cX1_isFitting 25 = .ok (.aload_n 1, 1) := by decide +kernel
theorem dX1_isFitting_26 : decode cX1_isFitting 26 = .ok (.getfield 94, 3) := by decide +kernel
theorem dX1_isFitting_29 : decode cX1_isFitting 29 = .ok (.iload_n 3, 1) := by decide +kernel
theorem dX1_isFitting_30 : decode cX1_isFitting 30 = .ok (.iaload, 1) := by decide +kernel
theorem dX1_isFitting_31 : decode cX1_isFitting 31 = .ok (.invokevirtual 85, 3) := by decide +kernel
theorem dX1_isFitting_34 : decode cX1_isFitting 34 = .ok (.aload_n 1, 1) := by decide +kernel
theorem dX1_isFitting_35 : decode cX1_isFitting 35 = .ok (.getfield 94, 3) := by decide +kernel
theorem dX1_isFitting_38 : decode cX1_isFitting 38 = .ok (.iload_n 3, 1) := by decide +kernel
theorem dX1_isFitting_39 : decode cX1_isFitting 39 = .ok (.iconst 1, 1) := by decide +kernel
theorem dX1_isFitting_40 : decode cX1_isFitting 40 = .ok (.iadd, 1) := by decide +kernel
theorem dX1_isFitting_41 : decode cX1_isFitting 41 = .ok (.iaload, 1) := by decide +kernel
theorem dX1_isFitting_42 : decode cX1_isFitting 42 = .ok (.if_icmp .eq 5, 3) := by decide +kernel
theorem dX1_isFitting_45 : decode cX1_isFitting 45 = .ok (.iconst 0, 1) := by decide +kernel
theorem dX1_isFitting_46 : decode cX1_isFitting 46 = .ok (.ireturn, 1) := by decide +kernel
theorem dX1_isFitting_47 : decode cX1_isFitting 47 = .ok (.iinc 3 2, 3) := by decide +kernel
theorem dX1_isFitting_50 : decode cX1_isFitting 50 = .ok (.goto (-43), 3) := by decide +kernel
theorem dX1_isFitting_53 : decode cX1_isFitting 53 = .ok (.iconst 1, 1) := by decide +kernel
theorem dX1_isFitting_54 : decode cX1_isFitting 54 = .ok (.ireturn, 1) := by decide +kernel
theorem dX1_findTelling_0 : decode cX1_findTelling 0 = .ok (.iconst 0, 1) := by decide +kernel
theorem dX1_findTelling_1 : decode cX1_findTelling 1 = .ok (.istore_n 2, 1) := by decide +kernel
theorem dX1_findTelling_2 : decode cX1_findTelling 2 = .ok (.aload_n 0, 1) := by decide +kernel
theorem dX1_findTelling_3 : decode cX1_findTelling 3 = .ok (.getfield 38, 3) := by decide +kernel
theorem dX1_findTelling_6 : decode cX1_findTelling 6 = .ok (.iconst 0, 1) := by decide +kernel
theorem dX1_findTelling_7 : decode cX1_findTelling 7 = .ok (.invokestatic 108, 3) := by decide +kernel
theorem dX1_findTelling_10 : decode cX1_findTelling 10 = .ok (.iconst 0, 1) := by decide +kernel
theorem dX1_findTelling_11 : decode cX1_findTelling 11 = .ok (.istore_n 3, 1) := by decide +kernel
theorem dX1_findTelling_12 : decode cX1_findTelling 12 = .ok (.iload_n 3, 1) := by decide +kernel
theorem dX1_findTelling_13 : decode cX1_findTelling 13 = .ok (.aload_n 0, 1) := by decide +kernel
theorem dX1_findTelling_14 : decode cX1_findTelling 14 = .ok (.invokevirtual 78, 3) := by decide +kernel
theorem dX1_findTelling_17 : decode cX1_findTelling 17 = .ok (.if_icmp .ge 24, 3) := by decide +kernel
theorem dX1_findTelling_20 : decode cX1_findTelling 20 = .ok (.aload_n 0, 1) := by decide +kernel
theorem dX1_findTelling_21 : decode cX1_findTelling 21 = .ok (.aload_n 1, 1) := by decide +kernel
theorem dX1_findTelling_22 : decode cX1_findTelling 22 = .ok (.iload_n 3, 1) := by decide +kernel
theorem dX1_findTelling_23 : decode cX1_findTelling 23 = .ok (.invokevirtual 104, 3) := by decide +kernel
theorem dX1_findTelling_26 : decode cX1_findTelling 26 = .ok (.ifCond .eq 9, 3) := by decide +kernel
theorem dX1_findTelling_29 : decode cX1_findTelling 29 = .ok (.iconst 1, 1) := by decide +kernel
theorem dX1_findTelling_30 : decode cX1_findTelling 30 = .ok (.istore_n 2, 1) := by decide +kernel
theorem dX1_findTelling_31 : decode cX1_findTelling 31 = .ok (.aload_n 0, 1) := by decide +kernel
theorem dX1_findTelling_32 : decode cX1_findTelling 32 = .ok (.invokevirtual 114, 3) := by decide +kernel
theorem dX1_findTelling_35 : decode cX1_findTelling 35 = .ok (.iinc 3 1, 3) := by decide +kernel
theorem dX1_findTelling_38 : decode cX1_findTelling 38 = .ok (.goto (-26), 3) := by decide +kernel
theorem dX1_findTelling_41 : decode cX1_findTelling 41 = .ok (.aload_n 0, 1) := by decide +kernel
theorem dX1_findTelling_42 : decode cX1_findTelling 42 = .ok (.iconst 0, 1) := by decide +kernel
theorem dX1_findTelling_43 : decode cX1_findTelling 43 = .ok (.putfield 47, 3) := by decide +kernel
theorem dX1_findTelling_46 : decode cX1_findTelling 46 = .ok (.aload_n 0, 1) := by decide +kernel
theorem dX1_findTelling_47 : decode cX1_findTelling 47 = .ok (.iconst 0, 1) := by decide +kernel
theorem dX1_findTelling_48 : decode cX1_findTelling 48 = .ok (.putfield 50, 3) := by decide +kernel
theorem dX1_findTelling_51 : decode cX1_findTelling 51 = .ok (.iconst 0, 1) := by decide +kernel
theorem dX1_findTelling_52 : decode cX1_findTelling 52 = .ok (.istore_n 3, 1) := by decide +kernel
theorem dX1_findTelling_53 : decode cX1_findTelling 53 = .ok (.iload_n 3, 1) := by decide +kernel
theorem dX1_findTelling_54 : decode cX1_findTelling 54 = .ok (.aload_n 0, 1) := by decide +kernel
theorem dX1_findTelling_55 : decode cX1_findTelling 55 = .ok (.getfield 10, 3) := by decide +kernel
theorem dX1_findTelling_58 : decode cX1_findTelling 58 = .ok (.invokevirtual 117, 3) := by decide +kernel
theorem dX1_findTelling_61 : decode cX1_findTelling 61 = .ok (.if_icmp .ge 46, 3) := by decide +kernel
theorem dX1_findTelling_64 : decode cX1_findTelling 64 = .ok (.iload_n 3, 1) := by decide +kernel
theorem dX1_findTelling_65 : decode cX1_findTelling 65 = .ok (.bipush 20, 2) := by decide +kernel
theorem dX1_findTelling_67 : decode cX1_findTelling 67 = .ok (.if_icmp .ge 40, 3) := by decide +kernel
theorem dX1_findTelling_70 : decode cX1_findTelling 70 = .ok (.aload_n 0, 1) := by decide +kernel
theorem dX1_findTelling_71 : decode cX1_findTelling 71 = .ok (.getfield 38, 3) := by decide +kernel
theorem dX1_findTelling_74 : decode cX1_findTelling 74 = .ok (.iload_n 3, 1) := by decide +kernel
theorem dX1_findTelling_75 : decode cX1_findTelling 75 = .ok (.iaload, 1) := by decide +kernel
theorem dX1_findTelling_76 : decode cX1_findTelling 76 = .ok (.invokestatic 120, 3) := by decide +kernel
theorem dX1_findTelling_79 : decode cX1_findTelling 79 = .ok (.istore 4, 2) := by decide +kernel
theorem dX1_findTelling_81 : decode cX1_findTelling 81 = .ok (.iload 4, 2) := by decide +kernel
theorem dX1_findTelling_83 : decode cX1_findTelling 83 = .ok (.aload_n 0, 1) := by decide +kernel
theorem dX1_findTelling_84 : decode cX1_findTelling 84 = .ok (.getfield 50, 3) := by decide +kernel
theorem dX1_findTelling_87 : decode cX1_findTelling 87 = .ok (.if_icmp .le 14, 3) := by decide +kernel
theorem dX1_findTelling_90 : decode cX1_findTelling 90 = .ok (.aload_n 0, 1) := by decide +kernel
theorem dX1_findTelling_91 : decode cX1_findTelling 91 = .ok (.iload 4, 2) := by decide +kernel
theorem dX1_findTelling_93 : decode cX1_findTelling 93 = .ok (.putfield 50, 3) := by decide +kernel
theorem dX1_findTelling_96 : decode cX1_findTelling 96 = .ok (.aload_n 0, 1) := by decide +kernel
theorem dX1_findTelling_97 : decode cX1_findTelling 97 = .ok (.iload_n 3, 1) := by decide +kernel
theorem dX1_findTelling_98 : decode cX1_findTelling 98 = .ok (.putfield 47, 3) := by decide +kernel
theorem dX1_findTelling_101 : decode cX1_findTelling 101 = .ok (.iinc 3 1, 3) := by decide +kernel
theorem dX1_findTelling_104 : decode cX1_findTelling 104 = .ok (.goto (-51), 3) := by decide +kernel
theorem dX1_findTelling_107 : decode cX1_findTelling 107 = .ok (.iload_n 2, 1) := by decide +kernel
theorem dX1_findTelling_108 : decode cX1_findTelling 108 = .ok (.ireturn, 1) := by decide +kernel
theorem dX1_noteOuts_0 : decode cX1_noteOuts 0 = .ok (.aload_n 0, 1) := by decide +kernel
theorem dX1_noteOuts_1 : decode cX1_noteOuts 1 = .ok (.getfield 10, 3) := by decide +kernel
theorem dX1_noteOuts_4 : decode cX1_noteOuts 4 = .ok (.getfield 57, 3) := by decide +kernel
theorem dX1_noteOuts_7 : decode cX1_noteOuts 7 = .ok (.istore_n 1, 1) := by decide +kernel
theorem dX1_noteOuts_8 : decode cX1_noteOuts 8 = .ok (.aload_n 0, 1) := by decide +kernel
theorem dX1_noteOuts_9 : decode cX1_noteOuts 9 = .ok (.getfield 10, 3) := by decide +kernel
theorem dX1_noteOuts_12 : decode cX1_noteOuts 12 = .ok (.getfield 60, 3) := by decide +kernel
theorem dX1_noteOuts_15 : decode cX1_noteOuts 15 = .ok (.lstore_n 2, 1) := by decide +kernel
theorem dX1_noteOuts_16 : decode cX1_noteOuts 16 = .ok (.iconst 0, 1) := by decide +kernel
theorem dX1_noteOuts_17 : decode cX1_noteOuts 17 = .ok (.istore 4, 2) := by decide +kernel
theorem dX1_noteOuts_19 : decode cX1_noteOuts 19 = .ok (.iload 4, 2) := by decide +kernel
theorem dX1_noteOuts_21 : decode cX1_noteOuts 21 = .ok (.aload_n 0, 1) := by decide +kernel
theorem dX1_noteOuts_22 : decode cX1_noteOuts 22 = .ok (.getfield 10, 3) := by decide +kernel
theorem dX1_noteOuts_25 : decode cX1_noteOuts 25 = .ok (.invokevirtual 117, 3) := by decide +kernel
theorem dX1_noteOuts_28 : decode cX1_noteOuts 28 = .ok (.if_icmp .ge 55, 3) := by decide +kernel
theorem dX1_noteOuts_31 : decode cX1_noteOuts 31 = .ok (.iload 4, 2) := by decide +kernel
theorem dX1_noteOuts_33 : decode cX1_noteOuts 33 = .ok (.bipush 20, 2) := by decide +kernel
theorem dX1_noteOuts_35 : decode cX1_noteOuts 35 = .ok (.if_icmp .ge 48, 3) := by decide +kernel
theorem dX1_noteOuts_38 : decode cX1_noteOuts 38 = .ok (.aload_n 0, 1) := by decide +kernel
theorem dX1_noteOuts_39 : decode cX1_noteOuts 39 = .ok (.getfield 10, 3) := by decide +kernel
theorem dX1_noteOuts_42 : decode cX1_noteOuts 42 = .ok (.iload_n 1, 1) := by decide +kernel
theorem dX1_noteOuts_43 : decode cX1_noteOuts 43 = .ok (.lload_n 2, 1) := by decide +kernel
theorem dX1_noteOuts_44 : decode cX1_noteOuts 44 = .ok (.invokevirtual 74, 3) := by decide +kernel
theorem dX1_noteOuts_47 : decode cX1_noteOuts 47 = .ok (.aload_n 0, 1) := by decide +kernel
theorem dX1_noteOuts_48 : decode cX1_noteOuts 48 = .ok (.getfield 38, 3) := by decide +kernel
theorem dX1_noteOuts_51 : decode cX1_noteOuts 51 = .ok (.iload 4, 2) := by decide +kernel
theorem dX1_noteOuts_53 : decode cX1_noteOuts 53 = .ok (.dup2, 1) := by decide +kernel
theorem dX1_noteOuts_54 : decode cX1_noteOuts 54 = .ok (.iaload, 1) := by decide +kernel
theorem dX1_noteOuts_55 : decode cX1_noteOuts 55 = .ok (.iconst 1, 1) := by decide +kernel
theorem dX1_noteOuts_56 : decode cX1_noteOuts 56 = .ok (.bipush 20, 2) := by decide +kernel
theorem dX1_noteOuts_58 : decode cX1_noteOuts 58 = .ok (.aload_n 0, 1) := by decide +kernel
theorem dX1_noteOuts_59 : decode cX1_noteOuts 59 = .ok (.getfield 19, 3) := by decide +kernel
theorem dX1_noteOuts_62 : decode cX1_noteOuts 62 = .ok (.aload_n 0, 1) := by decide +kernel
theorem dX1_noteOuts_63 : decode cX1_noteOuts 63 = .ok (.getfield 10, 3) := by decide +kernel
theorem dX1_noteOuts_66 : decode cX1_noteOuts 66 = .ok (.iload 4, 2) := by decide +kernel
theorem dX1_noteOuts_68 : decode cX1_noteOuts 68 = .ok (.invokevirtual 85, 3) := by decide +kernel
theorem dX1_noteOuts_71 : decode cX1_noteOuts 71 = .ok (.invokestatic 126, 3) := by decide +kernel
theorem dX1_noteOuts_74 : decode cX1_noteOuts 74 = .ok (.ishl, 1) := by decide +kernel
theorem dX1_noteOuts_75 : decode cX1_noteOuts 75 = .ok (.ior, 1) := by decide +kernel
theorem dX1_noteOuts_76 : decode cX1_noteOuts 76 = .ok (.iastore, 1) := by decide +kernel
theorem dX1_noteOuts_77 : decode cX1_noteOuts 77 = .ok (.iinc 4 1, 3) := by decide +kernel
theorem dX1_noteOuts_80 : decode cX1_noteOuts 80 = .ok (.goto (-61), 3) := by decide +kernel
theorem dX1_noteOuts_83 : decode cX1_noteOuts 83 = .ok (.return_, 1) := by decide +kernel
theorem dX2_init_0 : decode cX2_init 0 = .ok (.aload_n 0, 1) := by decide +kernel
theorem dX2_init_1 : decode cX2_init 1 = .ok (.invokespecial 1, 3) := by decide +kernel
theorem dX2_init_4 : decode cX2_init 4 = .ok (.aload_n 0, 1) := by decide +kernel
theorem dX2_init_5 : decode cX2_init 5 = .ok (.new 7, 3) := by decide +kernel
theorem dX2_init_8 : decode cX2_init 8 = .ok (.dup, 1) := by decide +kernel
theorem dX2_init_9 : decode cX2_init 9 = .ok (.invokespecial 9, 3) := by decide +kernel
theorem dX2_init_12 : decode cX2_init 12 = .ok (.putfield 10, 3) := by decide +kernel
theorem dX2_init_15 : decode cX2_init 15 = .ok (.aload_n 0, 1) := by decide +kernel
theorem dX2_init_16 : decode cX2_init 16 = .ok (.new 16, 3) := by decide +kernel
theorem dX2_init_19 : decode cX2_init 19 = .ok (.dup, 1) := by decide +kernel
theorem dX2_init_20 : decode cX2_init 20 = .ok (.invokespecial 18, 3) := by decide +kernel
theorem dX2_init_23 : decode cX2_init 23 = .ok (.putfield 19, 3) := by decide +kernel
theorem dX2_init_26 : decode cX2_init 26 = .ok (.aload_n 0, 1) := by decide +kernel
theorem dX2_init_27 : decode cX2_init 27 = .ok (.iconst 3, 1) := by decide +kernel
theorem dX2_init_28 : decode cX2_init 28 = .ok (.newarray .int, 2) := by decide +kernel
theorem dX2_init_30 : decode cX2_init 30 = .ok (.putfield 23, 3) := by decide +kernel
theorem dX2_init_33 : decode cX2_init 33 = .ok (.aload_n 0, 1) := by decide +kernel
theorem dX2_init_34 : decode cX2_init 34 = .ok (.iconst 3, 1) := by decide +kernel
theorem dX2_init_35 : decode cX2_init 35 = .ok (.newarray .int, 2) := by decide +kernel
theorem dX2_init_37 : decode cX2_init 37 = .ok (.putfield 27, 3) := by decide +kernel
theorem dX2_init_40 : decode cX2_init 40 = .ok (.aload_n 0, 1) := by decide +kernel
theorem dX2_init_41 : decode cX2_init 41 = .ok (.iconst 3, 1) := by decide +kernel
theorem dX2_init_42 : decode cX2_init 42 = .ok (.newarray .long, 2) := by decide +kernel
theorem dX2_init_44 : decode cX2_init 44 = .ok (.putfield 30, 3) := by decide +kernel
theorem dX2_init_47 : decode cX2_init 47 = .ok (.aload_n 0, 1) := by decide +kernel
theorem dX2_init_48 : decode cX2_init 48 = .ok (.sipush 201, 3) := by decide +kernel
theorem dX2_init_51 : decode cX2_init 51 = .ok (.newarray .int, 2) := by decide +kernel
theorem dX2_init_53 : decode cX2_init 53 = .ok (.putfield 34, 3) := by decide +kernel
theorem dX2_init_56 : decode cX2_init 56 = .ok (.aload_n 0, 1) := by decide +kernel
theorem dX2_init_57 : decode cX2_init 57 = .ok (.sipush 201, 3) := by decide +kernel
theorem dX2_init_60 : decode cX2_init 60 = .ok (.newarray .long, 2) := by decide +kernel
theorem dX2_init_62 : decode cX2_init 62 = .ok (.putfield 37, 3) := by decide +kernel
theorem dX2_init_65 : decode cX2_init 65 = .ok (.aload_n 0, 1) := by decide +kernel
theorem dX2_init_66 : decode cX2_init 66 = .ok (.iconst 0, 1) := by decide +kernel
theorem dX2_init_67 : decode cX2_init 67 = .ok (.putfield 40, 3) := by decide +kernel
theorem dX2_init_70 : decode cX2_init 70 = .ok (.aload_n 0, 1) := by decide +kernel
theorem dX2_init_71 : decode cX2_init 71 = .ok (.iconst 0, 1) := by decide +kernel
theorem dX2_init_72 : decode cX2_init 72 = .ok (.putfield 44, 3) := by decide +kernel
theorem dX2_init_75 : decode cX2_init 75 = .ok (.aload_n 0, 1) := by decide +kernel
theorem dX2_init_76 : decode cX2_init 76 = .ok (.iconst 0, 1) := by decide +kernel
theorem dX2_init_77 : decode cX2_init 77 = .ok (.putfield 47, 3) := by decide +kernel
theorem dX2_init_80 : decode cX2_init 80 = .ok (.return_, 1) := by decide +kernel
theorem dX2_raysRound_0 : decode cX2_raysRound 0 = .ok (.aload_n 0, 1) := by decide +kernel
theorem dX2_raysRound_1 : decode cX2_raysRound 1 = .ok (.getfield 10, 3) := by decide +kernel
theorem dX2_raysRound_4 : decode cX2_raysRound 4 = .ok (.aload_n 1, 1) := by decide +kernel
theorem dX2_raysRound_5 : decode cX2_raysRound 5 = .ok (.invokevirtual 50, 3) := by decide +kernel
theorem dX2_raysRound_8 : decode cX2_raysRound 8 = .ok (.iconst 1, 1) := by decide +kernel
theorem dX2_raysRound_9 : decode cX2_raysRound 9 = .ok (.istore_n 3, 1) := by decide +kernel
theorem dX2_raysRound_10 : decode cX2_raysRound 10 = .ok (.iload_n 3, 1) := by decide +kernel
theorem dX2_raysRound_11 : decode cX2_raysRound 11 = .ok (.sipush 400, 3) := by decide +kernel
theorem dX2_raysRound_14 : decode cX2_raysRound 14 = .ok (.if_icmp .gt 35, 3) := by decide +kernel
theorem dX2_raysRound_17 : decode cX2_raysRound 17 = .ok (.aload_n 0, 1) := by decide +kernel
theorem dX2_raysRound_18 : decode cX2_raysRound 18 = .ok (.getfield 19, 3) := by decide +kernel
theorem dX2_raysRound_21 : decode cX2_raysRound 21 = .ok (.aload_n 0, 1) := by decide +kernel
theorem dX2_raysRound_22 : decode cX2_raysRound 22 = .ok (.getfield 10, 3) := by decide +kernel
theorem dX2_raysRound_25 : decode cX2_raysRound 25 = .ok (.iload_n 2, 1) := by decide +kernel
theorem dX2_raysRound_26 : decode cX2_raysRound 26 = .ok (.invokevirtual 54, 3) := by decide +kernel
theorem dX2_raysRound_29 : decode cX2_raysRound 29 = .ok (.pop, 1) := by decide +kernel
theorem dX2_raysRound_30 : decode cX2_raysRound 30 = .ok (.aload_n 0, 1) := by decide +kernel
theorem dX2_raysRound_31 : decode cX2_raysRound 31 = .ok (.getfield 10, 3) := by decide +kernel
theorem dX2_raysRound_34 : decode cX2_raysRound 34 = .ok (.aload_n 1, 1) := by decide +kernel
theorem dX2_raysRound_35 : decode cX2_raysRound 35 = .ok (.invokevirtual 58, 3) := by decide +kernel
theorem dX2_raysRound_38 : decode cX2_raysRound 38 = .ok (.ifCond .eq 5, 3) := by decide +kernel
theorem dX2_raysRound_41 : decode cX2_raysRound 41 = .ok (.iload_n 3, 1) := by decide +kernel
theorem dX2_raysRound_42 : decode cX2_raysRound 42 = .ok (.ireturn, 1) := by decide +kernel
theorem dX2_raysRound_43 : decode cX2_raysRound 43 = .ok (.iinc 3 1, 3) := by decide +kernel
theorem dX2_raysRound_46 : decode cX2_raysRound 46 = .ok (.goto (-36), 3) := by decide +kernel
theorem dX2_raysRound_49 : decode cX2_raysRound 49 = .ok (.iconst 0, 1) := by decide +kernel
theorem dX2_raysRound_50 : decode cX2_raysRound 50 = .ok (.ireturn, 1) := by decide +kernel
theorem dX2_raysBack_0 : decode cX2_raysBack 0 = .ok (.iconst 0, 1) := by decide +kernel
theorem dX2_raysBack_1 : decode cX2_raysBack 1 = .ok (.istore_n 3, 1) := by decide +kernel
theorem dX2_raysBack_2 : decode cX2_raysBack 2 = .ok (.iload_n 3, 1) := by decide +kernel
theorem dX2_raysBack_3 : decode cX2_raysBack 3 = .ok (.iconst 3, 1) := by decide +kernel
theorem dX2_raysBack_4 : decode cX2_raysBack 4 = .ok (.if_icmp .gt 29, 3) := by decide +kernel
theorem dX2_raysBack_7 : decode cX2_raysBack 7 = .ok (.aload_n 0, 1) := by decide +kernel
theorem dX2_raysBack_8 : decode cX2_raysBack 8 = .ok (.getfield 10, 3) := by decide +kernel
theorem dX2_raysBack_11 : decode cX2_raysBack 11 = .ok (.aload_n 1, 1) := by decide +kernel
theorem dX2_raysBack_12 : decode cX2_raysBack 12 = .ok (.invokevirtual 50, 3) := by decide +kernel
theorem dX2_raysBack_15 : decode cX2_raysBack 15 = .ok (.aload_n 0, 1) := by decide +kernel
theorem dX2_raysBack_16 : decode cX2_raysBack 16 = .ok (.iconst 0, 1) := by decide +kernel
theorem dX2_raysBack_17 : decode cX2_raysBack 17 = .ok (.iload_n 3, 1) := by decide +kernel
theorem dX2_raysBack_18 : decode cX2_raysBack 18 = .ok (.aload_n 2, 1) := by decide +kernel
theorem dX2_raysBack_19 : decode cX2_raysBack 19 = .ok (.invokevirtual 62, 3) := by decide +kernel
theorem dX2_raysBack_22 : decode cX2_raysBack 22 = .ok (.ifCond .eq 5, 3) := by decide +kernel
theorem dX2_raysBack_25 : decode cX2_raysBack 25 = .ok (.iload_n 3, 1) := by decide +kernel
theorem dX2_raysBack_26 : decode cX2_raysBack 26 = .ok (.ireturn, 1) := by decide +kernel
theorem dX2_raysBack_27 : decode cX2_raysBack 27 = .ok (.iinc 3 1, 3) := by decide +kernel
theorem dX2_raysBack_30 : decode cX2_raysBack 30 = .ok (.goto (-28), 3) := by decide +kernel
theorem dX2_raysBack_33 : decode cX2_raysBack 33 = .ok (.iconst (-1), 1) := by decide +kernel
theorem dX2_raysBack_34 : decode cX2_raysBack 34 = .ok (.ireturn, 1) := by decide +kernel
theorem dX2_leads_0 : decode cX2_leads 0 = .ok (.iload_n 1, 1) := by decide +kernel
theorem dX2_leads_1 : decode cX2_leads 1 = .ok (.iload_n 2, 1) := by decide +kernel
theorem dX2_leads_2 : decode cX2_leads 2 = .ok (.if_icmp .ge 8, 3) := by decide +kernel
theorem dX2_leads_5 : decode cX2_leads 5 = .ok (.iload_n 1, 1) := by decide +kernel
theorem dX2_leads_6 : decode cX2_leads 6 = .ok (.iconst 3, 1) := by decide +kernel
theorem dX2_leads_7 : decode cX2_leads 7 = .ok (.if_icmp .lt 14, 3) := by decide +kernel
theorem dX2_leads_10 : decode cX2_leads 10 = .ok (.aload_n 0, 1) := by decide +kernel
theorem dX2_leads_11 : decode cX2_leads 11 = .ok (.getfield 10, 3) := by decide +kernel
theorem dX2_leads_14 : decode cX2_leads 14 = .ok (.aload_n 3, 1) := by decide +kernel
theorem dX2_leads_15 : decode cX2_leads 15 = .ok (.invokevirtual 58, 3) := by decide +kernel
theorem dX2_leads_18 : decode cX2_leads 18 = .ok (.goto 10, 3) := by decide +kernel
theorem dX2_leads_21 : decode cX2_leads 21 = .ok (.aload_n 0, 1) := by decide +kernel
theorem dX2_leads_22 : decode cX2_leads 22 = .ok (.iload_n 1, 1) := by decide +kernel
theorem dX2_leads_23 : decode cX2_leads 23 = .ok (.iload_n 2, 1) := by decide +kernel
theorem dX2_leads_24 : decode cX2_leads 24 = .ok (.aload_n 3, 1) := by decide +kernel
theorem dX2_leads_25 : decode cX2_leads 25 = .ok (.invokevirtual 66, 3) := by decide +kernel
theorem dX2_leads_28 : decode cX2_leads 28 = .ok (.ireturn, 1) := by decide +kernel
theorem dX2_leadsByWindow_0 : decode cX2_leadsByWindow 0 = .ok (.aload_n 0, 1) := by decide +kernel
theorem dX2_leadsByWindow_1 : decode cX2_leadsByWindow 1 = .ok (.getfield 27, 3) := by decide +kernel
theorem dX2_leadsByWindow_4 : decode cX2_leadsByWindow 4 = .ok (.iload_n 1, 1) := by decide +kernel
theorem dX2_leadsByWindow_5 : decode cX2_leadsByWindow 5 = .ok (.aload_n 0, 1) := by decide +kernel
theorem dX2_leadsByWindow_6 : decode cX2_leadsByWindow 6 = .ok (.getfield 10, 3) := by decide +kernel
theorem dX2_leadsByWindow_9 : decode cX2_leadsByWindow 9 = .ok (.getfield 69, 3) := by decide +kernel
theorem dX2_leadsByWindow_12 : decode cX2_leadsByWindow 12 = .ok (.iastore, 1) := by decide +kernel
theorem dX2_leadsByWindow_13 : decode cX2_leadsByWindow 13 = .ok (.aload_n 0, 1) := by decide +kernel
theorem dX2_leadsByWindow_14 : decode cX2_leadsByWindow 14 = .ok (.getfield 30, 3) := by decide +kernel
theorem dX2_leadsByWindow_17 : decode cX2_leadsByWindow 17 = .ok (.iload_n 1, 1) := by decide +kernel
theorem dX2_leadsByWindow_18 : decode cX2_leadsByWindow 18 = .ok (.aload_n 0, 1) := by decide +kernel
theorem dX2_leadsByWindow_19 : decode cX2_leadsByWindow 19 = .ok (.getfield 10, 3) := by decide +kernel
theorem dX2_leadsByWindow_22 : decode cX2_leadsByWindow 22 = .ok (.getfield 72, 3) := by decide +kernel
theorem dX2_leadsByWindow_25 : decode cX2_leadsByWindow 25 = .ok (.lastore, 1) := by decide +kernel
theorem dX2_leadsByWindow_26 : decode cX2_leadsByWindow 26 = .ok (.iconst 0, 1) := by decide +kernel
theorem dX2_leadsByWindow_27 : decode cX2_leadsByWindow 27 = .ok (.istore 4, 2) := by decide +kernel
theorem dX2_leadsByWindow_29 : decode cX2_leadsByWindow 29 = .ok (.iload 4, 2) := by decide +kernel
theorem dX2_leadsByWindow_31 : decode cX2_leadsByWindow 31 = .ok (.aload_n 0, 1) := by decide +kernel
theorem dX2_leadsByWindow_32 : decode cX2_leadsByWindow 32 = .ok (.getfield 10, 3) := by decide +kernel
theorem dX2_leadsByWindow_35 : decode cX2_leadsByWindow 35 = .ok (.invokevirtual 76, 3) := by decide +kernel
theorem dX2_leadsByWindow_38 : decode cX2_leadsByWindow 38 = .ok (.if_icmp .ge 64, 3) := by decide +kernel
theorem dX2_leadsByWindow_41 : decode cX2_leadsByWindow 41 = .ok (.aload_n 0, 1) := by decide +kernel
theorem dX2_leadsByWindow_42 : decode cX2_leadsByWindow 42 = .ok (.getfield 10, 3) := by decide +kernel
theorem dX2_leadsByWindow_45 : decode cX2_leadsByWindow 45 = .ok (.aload_n 0, 1) := by decide +kernel
theorem dX2_leadsByWindow_46 : decode cX2_leadsByWindow 46 = .ok (.getfield 27, 3) := by decide +kernel
theorem dX2_leadsByWindow_49 : decode cX2_leadsByWindow 49 = .ok (.iload_n 1, 1) := by decide +kernel
theorem dX2_leadsByWindow_50 : decode cX2_leadsByWindow 50 = .ok (.iaload, 1) := by decide +kernel
theorem dX2_leadsByWindow_51 : decode cX2_leadsByWindow 51 = .ok (.aload_n 0, 1) := by decide +kernel
theorem dX2_leadsByWindow_52 : decode cX2_leadsByWindow 52 = .ok (.getfield 30, 3) := by decide +kernel
theorem dX2_leadsByWindow_55 : decode cX2_leadsByWindow 55 = .ok (.iload_n 1, 1) := by decide +kernel
theorem dX2_leadsByWindow_56 : decode cX2_leadsByWindow 56 = .ok (.laload, 1) := by decide +kernel
theorem dX2_leadsByWindow_57 : decode cX2_leadsByWindow 57 = .ok (.invokevirtual 80, 3) := by decide +kernel
theorem dX2_leadsByWindow_60 : decode cX2_leadsByWindow 60 = .ok (.aload_n 0, 1) := by decide +kernel
theorem dX2_leadsByWindow_61 : decode cX2_leadsByWindow 61 = .ok (.getfield 19, 3) := by decide +kernel
theorem dX2_leadsByWindow_64 : decode cX2_leadsByWindow 64 = .ok (.aload_n 0, 1) := by decide +kernel
theorem dX2_leadsByWindow_65 : decode cX2_leadsByWindow 65 = .ok (.getfield 10, 3) := by decide +kernel
theorem dX2_leadsByWindow_68 : decode cX2_leadsByWindow 68 = .ok (.iload 4, 2) := by decide +kernel
theorem dX2_leadsByWindow_70 : decode cX2_leadsByWindow 70 = .ok (.invokevirtual 54, 3) := by decide +kernel
theorem dX2_leadsByWindow_73 : decode cX2_leadsByWindow 73 = .ok (.pop, 1) := by decide +kernel
theorem dX2_leadsByWindow_74 : decode cX2_leadsByWindow 74 = .ok (.aload_n 0, 1) := by decide +kernel
theorem dX2_leadsByWindow_75 : decode cX2_leadsByWindow 75 = .ok (.getfield 23, 3) := by decide +kernel
theorem dX2_leadsByWindow_78 : decode cX2_leadsByWindow 78 = .ok (.iload_n 1, 1) := by decide +kernel
theorem dX2_leadsByWindow_79 : decode cX2_leadsByWindow 79 = .ok (.iload 4, 2) := by decide +kernel
theorem dX2_leadsByWindow_81 : decode cX2_leadsByWindow 81 = .ok (.iastore, 1) := by decide +kernel
theorem dX2_leadsByWindow_82 : decode cX2_leadsByWindow 82 = .ok (.aload_n 0, 1) := by decide +kernel
theorem dX2_leadsByWindow_83 : decode cX2_leadsByWindow 83 = .ok (.iload_n 1, 1) := by decide +kernel
theorem dX2_leadsByWindow_84 : decode cX2_leadsByWindow 84 = .ok (.iconst 1, 1) := by decide +kernel
theorem dX2_leadsByWindow_85 : decode cX2_leadsByWindow 85 = .ok (.iadd, 1) := by decide +kernel
theorem dX2_leadsByWindow_86 : decode cX2_leadsByWindow 86 = .ok (.iload_n 2, 1) := by decide +kernel
theorem dX2_leadsByWindow_87 : decode cX2_leadsByWindow 87 = .ok (.aload_n 3, 1) := by decide +kernel
theorem dX2_leadsByWindow_88 : decode cX2_leadsByWindow 88 = .ok (.invokevirtual 62, 3) := by decide +kernel
theorem dX2_leadsByWindow_91 : decode cX2_leadsByWindow 91 = .ok (.ifCond .eq 5, 3) := by decide +kernel
theorem dX2_leadsByWindow_94 : decode cX2_leadsByWindow 94 = .ok (.iconst 1, 1) := by decide +kernel
theorem dX2_leadsByWindow_95 : decode cX2_leadsByWindow 95 = .ok (.ireturn, 1) := by decide +kernel
theorem dX2_leadsByWindow_96 : decode cX2_leadsByWindow 96 = .ok (.iinc 4 1, 3) := by decide +kernel
theorem dX2_leadsByWindow_99 : decode cX2_leadsByWindow 99 = .ok (.goto (-70), 3) := by decide +kernel
theorem dX2_leadsByWindow_102 : decode cX2_leadsByWindow 102 = .ok (.iconst 0, 1) := by decide +kernel
theorem dX2_leadsByWindow_103 : decode cX2_leadsByWindow 103 = .ok (.ireturn, 1) := by decide +kernel
theorem dX2_standings_0 : decode cX2_standings 0 = .ok (.aload_n 0, 1) := by decide +kernel
theorem dX2_standings_1 : decode cX2_standings 1 = .ok (.getfield 10, 3) := by decide +kernel
theorem dX2_standings_4 : decode cX2_standings 4 = .ok (.aload_n 1, 1) := by decide +kernel
theorem dX2_standings_5 : decode cX2_standings 5 = .ok (.invokevirtual 50, 3) := by decide +kernel
theorem dX2_standings_8 : decode cX2_standings 8 = .ok (.aload_n 0, 1) := by decide +kernel
theorem dX2_standings_9 : decode cX2_standings 9 = .ok (.iconst 0, 1) := by decide +kernel
theorem dX2_standings_10 : decode cX2_standings 10 = .ok (.putfield 40, 3) := by decide +kernel
theorem dX2_standings_13 : decode cX2_standings 13 = .ok (.aload_n 0, 1) := by decide +kernel
theorem dX2_standings_14 : decode cX2_standings 14 = .ok (.invokevirtual 84, 3) := by decide +kernel
theorem dX2_standings_17 : decode cX2_standings 17 = .ok (.iconst 0, 1) := by decide +kernel
theorem dX2_standings_18 : decode cX2_standings 18 = .ok (.istore_n 2, 1) := by decide +kernel
theorem dX2_standings_19 : decode cX2_standings 19 = .ok (.iload_n 2, 1) := by decide +kernel
theorem dX2_standings_20 : decode cX2_standings 20 = .ok (.sipush 200, 3) := by decide +kernel
theorem dX2_standings_23 : decode cX2_standings 23 = .ok (.if_icmp .gt 82, 3) := by decide +kernel
theorem dX2_standings_26 : decode cX2_standings 26 = .ok (.iload_n 2, 1) := by decide +kernel
theorem dX2_standings_27 : decode cX2_standings 27 = .ok (.aload_n 0, 1) := by decide +kernel
theorem dX2_standings_28 : decode cX2_standings 28 = .ok (.getfield 40, 3) := by decide +kernel
theorem dX2_standings_31 : decode cX2_standings 31 = .ok (.if_icmp .ge 74, 3) := by decide +kernel
theorem dX2_standings_34 : decode cX2_standings 34 = .ok (.iconst 0, 1) := by decide +kernel
theorem dX2_standings_35 : decode cX2_standings 35 = .ok (.istore_n 3, 1) := by decide +kernel
theorem dX2_standings_36 : decode cX2_standings 36 = .ok (.iload_n 3, 1) := by decide +kernel
theorem dX2_standings_37 : decode cX2_standings 37 = .ok (.aload_n 0, 1) := by decide +kernel
theorem dX2_standings_38 : decode cX2_standings 38 = .ok (.getfield 10, 3) := by decide +kernel
theorem dX2_standings_41 : decode cX2_standings 41 = .ok (.invokevirtual 76, 3) := by decide +kernel
theorem dX2_standings_44 : decode cX2_standings 44 = .ok (.if_icmp .ge 55, 3) := by decide +kernel
theorem dX2_standings_47 : decode cX2_standings 47 = .ok (.aload_n 0, 1) := by decide +kernel
theorem dX2_standings_48 : decode cX2_standings 48 = .ok (.getfield 40, 3) := by decide +kernel
theorem dX2_standings_51 : decode cX2_standings 51 = .ok (.sipush 200, 3) := by decide +kernel
theorem dX2_standings_54 : decode cX2_standings 54 = .ok (.if_icmp .gt 45, 3) := by decide +kernel
theorem dX2_standings_57 : decode cX2_standings 57 = .ok (.aload_n 0, 1) := by decide +kernel
theorem dX2_standings_58 : decode cX2_standings 58 = .ok (.getfield 10, 3) := by decide +kernel
theorem dX2_standings_61 : decode cX2_standings 61 = .ok (.aload_n 0, 1) := by decide +kernel
theorem dX2_standings_62 : decode cX2_standings 62 = .ok (.getfield 34, 3) := by decide +kernel
theorem dX2_standings_65 : decode cX2_standings 65 = .ok (.iload_n 2, 1) := by decide +kernel
theorem dX2_standings_66 : decode cX2_standings 66 = .ok (.iaload, 1) := by decide +kernel
theorem dX2_standings_67 : decode cX2_standings 67 = .ok (.aload_n 0, 1) := by decide +kernel
theorem dX2_standings_68 : decode cX2_standings 68 = .ok (.getfield 37, 3) := by decide +kernel
theorem dX2_standings_71 : decode cX2_standings 71 = .ok (.iload_n 2, 1) := by decide +kernel
theorem dX2_standings_72 : decode cX2_standings 72 = .ok (.laload, 1) := by decide +kernel
theorem dX2_standings_73 : decode cX2_standings 73 = .ok (.invokevirtual 80, 3) := by decide +kernel
theorem dX2_standings_76 : decode cX2_standings 76 = .ok (.aload_n 0, 1) := by decide +kernel
theorem dX2_standings_77 : decode cX2_standings 77 = .ok (.getfield 19, 3) := by decide +kernel
theorem dX2_standings_80 : decode cX2_standings 80 = .ok (.aload_n 0, 1) := by decide +kernel
theorem dX2_standings_81 : decode cX2_standings 81 = .ok (.getfield 10, 3) := by decide +kernel
theorem dX2_standings_84 : decode cX2_standings 84 = .ok (.iload_n 3, 1) := by decide +kernel
theorem dX2_standings_85 : decode cX2_standings 85 = .ok (.invokevirtual 54, 3) := by decide +kernel
theorem dX2_standings_88 : decode cX2_standings 88 = .ok (.pop, 1) := by decide +kernel
theorem dX2_standings_89 : decode cX2_standings 89 = .ok (.aload_n 0, 1) := by decide +kernel
theorem dX2_standings_90 : decode cX2_standings 90 = .ok (.invokevirtual 84, 3) := by decide +kernel
theorem dX2_standings_93 : decode cX2_standings 93 = .ok (.iinc 3 1, 3) := by decide +kernel
theorem dX2_standings_96 : decode cX2_standings 96 = .ok (.goto (-60), 3) := by decide +kernel
theorem dX2_standings_99 : decode cX2_standings 99 = .ok (.iinc 2 1, 3) := by decide +kernel
theorem dX2_standings_102 : decode cX2_standings 102 = .ok (.goto (-83), 3) := by decide +kernel
theorem dX2_standings_105 : decode cX2_standings 105 = .ok (.aload_n 0, 1) := by decide +kernel
theorem dX2_standings_106 : decode cX2_standings 106 = .ok (.getfield 40, 3) := by decide +kernel
theorem dX2_standings_109 : decode cX2_standings 109 = .ok (.ireturn, 1) := by decide +kernel
theorem dX2_note_0 : decode cX2_note 0 = .ok (.iconst 0, 1) := by decide +kernel
theorem dX2_note_1 : decode cX2_note 1 = .ok (.istore_n 1, 1) := by decide +kernel
theorem dX2_note_2 : decode cX2_note 2 = .ok (.iload_n 1, 1) := by decide +kernel
theorem dX2_note_3 : decode cX2_note 3 = .ok (.aload_n 0, 1) := by decide +kernel
theorem dX2_note_4 : decode cX2_note 4 = .ok (.getfield 40, 3) := by decide +kernel
theorem dX2_note_7 : decode cX2_note 7 = .ok (.if_icmp .ge 52, 3) := by decide +kernel
theorem dX2_note_10 : decode cX2_note 10 = .ok (.iload_n 1, 1) := by decide +kernel
theorem dX2_note_11 : decode cX2_note 11 = .ok (.aload_n 0, 1) := by decide +kernel
theorem dX2_note_12 : decode cX2_note 12 = .ok (.getfield 34, 3) := by decide +kernel
theorem dX2_note_15 : decode cX2_note 15 = .ok (.arraylength, 1) := by decide +kernel
theorem dX2_note_16 : decode cX2_note 16 = .ok (.if_icmp .ge 43, 3) := by decide +kernel
theorem dX2_note_19 : decode cX2_note 19 = .ok (.aload_n 0, 1) := by decide +kernel
theorem dX2_note_20 : decode cX2_note 20 = .ok (.getfield 34, 3) := by decide +kernel
theorem dX2_note_23 : decode cX2_note 23 = .ok (.iload_n 1, 1) := by decide +kernel
theorem dX2_note_24 : decode cX2_note 24 = .ok (.iaload, 1) := by decide +kernel
theorem dX2_note_25 : decode cX2_note 25 = .ok (.aload_n 0, 1) := by decide +kernel
theorem dX2_note_26 : decode cX2_note 26 = .ok (.getfield 10, 3) := by decide +kernel
theorem dX2_note_29 : decode cX2_note 29 = .ok (.getfield 69, 3) := by decide +kernel
theorem dX2_note_32 : decode cX2_note 32 = .ok (.if_icmp .ne 21, 3) := by decide +kernel
theorem dX2_note_35 : decode cX2_note 35 = .ok (.aload_n 0, 1) := by decide +kernel
theorem dX2_note_36 : decode cX2_note 36 = .ok (.getfield 37, 3) := by decide +kernel
theorem dX2_note_39 : decode cX2_note 39 = .ok (.iload_n 1, 1) := by decide +kernel
theorem dX2_note_40 : decode cX2_note 40 = .ok (.laload, 1) := by decide +kernel
theorem dX2_note_41 : decode cX2_note 41 = .ok (.aload_n 0, 1) := by decide +kernel
theorem dX2_note_42 : decode cX2_note 42 = .ok (.getfield 10, 3) := by decide +kernel
theorem dX2_note_45 : decode cX2_note 45 = .ok (.getfield 72, 3) := by decide +kernel
theorem dX2_note_48 : decode cX2_note 48 = .ok (.lcmp, 1) := by decide +kernel
theorem dX2_note_49 : decode cX2_note 49 = .ok (.ifCond .ne 4, 3) := by decide +kernel
theorem dX2_note_52 : decode cX2_note 52 = .ok (.return_, 1) := by decide +kernel
theorem dX2_note_53 : decode cX2_note 53 = .ok (.iinc 1 1, 3) := by decide +kernel
theorem dX2_note_56 : decode cX2_note 56 = .ok (.goto (-54), 3) := by decide +kernel
theorem dX2_note_59 : decode cX2_note 59 = .ok (.aload_n 0, 1) := by decide +kernel
theorem dX2_note_60 : decode cX2_note 60 = .ok (.getfield 40, 3) := by decide +kernel
theorem dX2_note_63 : decode cX2_note 63 = .ok (.aload_n 0, 1) := by decide +kernel
theorem dX2_note_64 : decode cX2_note 64 = .ok (.getfield 34, 3) := by decide +kernel
theorem dX2_note_67 : decode cX2_note 67 = .ok (.arraylength, 1) := by decide +kernel
theorem dX2_note_68 : decode cX2_note 68 = .ok (.if_icmp .ge 45, 3) := by decide +kernel
theorem dX2_note_71 : decode cX2_note 71 = .ok (.aload_n 0, 1) := by decide +kernel
theorem dX2_note_72 : decode cX2_note 72 = .ok (.getfield 34, 3) := by decide +kernel
theorem dX2_note_75 : decode cX2_note 75 = .ok (.aload_n 0, 1) := by decide +kernel
theorem dX2_note_76 : decode cX2_note 76 = .ok (.getfield 40, 3) := by decide +kernel
theorem dX2_note_79 : decode cX2_note 79 = .ok (.aload_n 0, 1) := by decide +kernel
theorem dX2_note_80 : decode cX2_note 80 = .ok (.getfield 10, 3) := by decide +kernel
theorem dX2_note_83 : decode cX2_note 83 = .ok (.getfield 69, 3) := by decide +kernel
theorem dX2_note_86 : decode cX2_note 86 = .ok (.iastore, 1) := by decide +kernel
theorem dX2_note_87 : decode cX2_note 87 = .ok (.aload_n 0, 1) := by decide +kernel
theorem dX2_note_88 : decode cX2_note 88 = .ok (.getfield 37, 3) := by decide +kernel
theorem dX2_note_91 : decode cX2_note 91 = .ok (.aload_n 0, 1) := by decide +kernel
theorem dX2_note_92 : decode cX2_note 92 = .ok (.getfield 40, 3) := by decide +kernel
theorem dX2_note_95 : decode cX2_note 95 = .ok (.aload_n 0, 1) := by decide +kernel
theorem dX2_note_96 : decode cX2_note 96 = .ok (.getfield 10, 3) := by decide +kernel
theorem dX2_note_99 : decode cX2_note 99 = .ok (.getfield 72, 3) := by decide +kernel
theorem dX2_note_102 : decode cX2_note 102 = .ok (.lastore, 1) := by decide +kernel
theorem dX2_note_103 : decode cX2_note 103 = .ok (.aload_n 0, 1) := by decide +kernel
theorem dX2_note_104 : decode cX2_note 104 = .ok (.dup, 1) := by decide +kernel
theorem dX2_note_105 : decode cX2_note 105 = .ok (.getfield 40, 3) := by decide +kernel
theorem dX2_note_108 : decode cX2_note 108 = .ok (.iconst 1, 1) := by decide +kernel
theorem dX2_note_109 : decode cX2_note 109 = .ok (.iadd, 1) := by decide +kernel
theorem dX2_note_110 : decode cX2_note 110 = .ok (.putfield 40, 3) := by decide +kernel
theorem dX2_note_113 : decode cX2_note 113 = .ok (.return_, 1) := by decide +kernel
theorem dX2_findLongest_0 : decode cX2_findLongest 0 = .ok (.aload_n 0, 1) := by decide +kernel
theorem dX2_findLongest_1 : decode cX2_findLongest 1 = .ok (.iconst 0, 1) := by decide +kernel
theorem dX2_findLongest_2 : decode cX2_findLongest 2 = .ok (.putfield 44, 3) := by decide +kernel
theorem dX2_findLongest_5 : decode cX2_findLongest 5 = .ok (.aload_n 0, 1) := by decide +kernel
theorem dX2_findLongest_6 : decode cX2_findLongest 6 = .ok (.iconst 0, 1) := by decide +kernel
theorem dX2_findLongest_7 : decode cX2_findLongest 7 = .ok (.putfield 47, 3) := by decide +kernel
theorem dX2_findLongest_10 : decode cX2_findLongest 10 = .ok (.aload_n 0, 1) := by decide +kernel
theorem dX2_findLongest_11 : decode cX2_findLongest 11 = .ok (.getfield 10, 3) := by decide +kernel
theorem dX2_findLongest_14 : decode cX2_findLongest 14 = .ok (.aload_n 1, 1) := by decide +kernel
theorem dX2_findLongest_15 : decode cX2_findLongest 15 = .ok (.invokevirtual 50, 3) := by decide +kernel
theorem dX2_findLongest_18 : decode cX2_findLongest 18 = .ok (.iconst 0, 1) := by decide +kernel
theorem dX2_findLongest_19 : decode cX2_findLongest 19 = .ok (.istore_n 2, 1) := by decide +kernel
theorem dX2_findLongest_20 : decode cX2_findLongest 20 = .ok (.iload_n 2, 1) := by decide +kernel
theorem dX2_findLongest_21 : decode cX2_findLongest 21 = .ok (.aload_n 1, 1) := by decide +kernel
theorem dX2_findLongest_22 : decode cX2_findLongest 22 = .ok (.invokevirtual 76, 3) := by decide +kernel
theorem dX2_findLongest_25 : decode cX2_findLongest 25 = .ok (.if_icmp .ge 60, 3) := by decide +kernel
theorem dX2_findLongest_28 : decode cX2_findLongest 28 = .ok (.aload_n 0, 1) := by decide +kernel
theorem dX2_findLongest_29 : decode cX2_findLongest 29 = .ok (.getfield 10, 3) := by decide +kernel
theorem dX2_findLongest_32 : decode cX2_findLongest 32 = .ok (.aload_n 1, 1) := by decide +kernel
theorem dX2_findLongest_33 : decode cX2_findLongest 33 = .ok (.invokevirtual 87, 3) := by decide +kernel
theorem dX2_findLongest_36 : decode cX2_findLongest 36 = .ok (.aload_n 0, 1) := by decide +kernel
theorem dX2_findLongest_37 : decode cX2_findLongest 37 = .ok (.getfield 19, 3) := by decide +kernel
theorem dX2_findLongest_40 : decode cX2_findLongest 40 = .ok (.aload_n 0, 1) := by decide +kernel
theorem dX2_findLongest_41 : decode cX2_findLongest 41 = .ok (.getfield 10, 3) := by decide +kernel
theorem dX2_findLongest_44 : decode cX2_findLongest 44 = .ok (.iload_n 2, 1) := by decide +kernel
theorem dX2_findLongest_45 : decode cX2_findLongest 45 = .ok (.invokevirtual 54, 3) := by decide +kernel
theorem dX2_findLongest_48 : decode cX2_findLongest 48 = .ok (.pop, 1) := by decide +kernel
theorem dX2_findLongest_49 : decode cX2_findLongest 49 = .ok (.aload_n 0, 1) := by decide +kernel
theorem dX2_findLongest_50 : decode cX2_findLongest 50 = .ok (.getfield 19, 3) := by decide +kernel
theorem dX2_findLongest_53 : decode cX2_findLongest 53 = .ok (.getfield 90, 3) := by decide +kernel
theorem dX2_findLongest_56 : decode cX2_findLongest 56 = .ok (.aload_n 0, 1) := by decide +kernel
theorem dX2_findLongest_57 : decode cX2_findLongest 57 = .ok (.getfield 47, 3) := by decide +kernel
theorem dX2_findLongest_60 : decode cX2_findLongest 60 = .ok (.if_icmp .le 19, 3) := by decide +kernel
theorem dX2_findLongest_63 : decode cX2_findLongest 63 = .ok (.aload_n 0, 1) := by decide +kernel
theorem dX2_findLongest_64 : decode cX2_findLongest 64 = .ok (.aload_n 0, 1) := by decide +kernel
theorem dX2_findLongest_65 : decode cX2_findLongest 65 = .ok (.getfield 19, 3) := by decide +kernel
theorem dX2_findLongest_68 : decode cX2_findLongest 68 = .ok (.getfield 90, 3) := by decide +kernel
theorem dX2_findLongest_71 : decode cX2_findLongest 71 = .ok (.putfield 47, 3) := by decide +kernel
theorem dX2_findLongest_74 : decode cX2_findLongest 74 = .ok (.aload_n 0, 1) := by decide +kernel
theorem dX2_findLongest_75 : decode cX2_findLongest 75 = .ok (.iload_n 2, 1) := by decide +kernel
theorem dX2_findLongest_76 : decode cX2_findLongest 76 = .ok (.putfield 44, 3) := by decide +kernel
theorem dX2_findLongest_79 : decode cX2_findLongest 79 = .ok (.iinc 2 1, 3) := by decide +kernel
theorem dX2_findLongest_82 : decode cX2_findLongest 82 = .ok (.goto (-62), 3) := by decide +kernel
theorem dX2_findLongest_85 : decode cX2_findLongest 85 = .ok (.return_, 1) := by decide +kernel
theorem dX3_init_0 : decode cX3_init 0 = .ok (.aload_n 0, 1) := by decide +kernel
theorem dX3_init_1 : decode cX3_init 1 = .ok (.invokespecial 1, 3) := by decide +kernel
theorem dX3_init_4 : decode cX3_init 4 = .ok (.aload_n 0, 1) := by decide +kernel
theorem dX3_init_5 : decode cX3_init 5 = .ok (.iconst 1, 1) := by decide +kernel
theorem dX3_init_6 : decode cX3_init 6 = .ok (.putfield 7, 3) := by decide +kernel
theorem dX3_init_9 : decode cX3_init 9 = .ok (.aload_n 0, 1) := by decide +kernel
theorem dX3_init_10 : decode cX3_init 10 = .ok (.iconst 1, 1) := by decide +kernel
theorem dX3_init_11 : decode cX3_init 11 = .ok (.putfield 13, 3) := by decide +kernel
theorem dX3_init_14 : decode cX3_init 14 = .ok (.aload_n 0, 1) := by decide +kernel
theorem dX3_init_15 : decode cX3_init 15 = .ok (.bipush 25, 2) := by decide +kernel
theorem dX3_init_17 : decode cX3_init 17 = .ok (.newarray .int, 2) := by decide +kernel
theorem dX3_init_19 : decode cX3_init 19 = .ok (.putfield 16, 3) := by decide +kernel
theorem dX3_init_22 : decode cX3_init 22 = .ok (.aload_n 0, 1) := by decide +kernel
theorem dX3_init_23 : decode cX3_init 23 = .ok (.bipush 25, 2) := by decide +kernel
theorem dX3_init_25 : decode cX3_init 25 = .ok (.newarray .int, 2) := by decide +kernel
theorem dX3_init_27 : decode cX3_init 27 = .ok (.putfield 20, 3) := by decide +kernel
theorem dX3_init_30 : decode cX3_init 30 = .ok (.aload_n 0, 1) := by decide +kernel
theorem dX3_init_31 : decode cX3_init 31 = .ok (.bipush 25, 2) := by decide +kernel
theorem dX3_init_33 : decode cX3_init 33 = .ok (.newarray .int, 2) := by decide +kernel
theorem dX3_init_35 : decode cX3_init 35 = .ok (.putfield 23, 3) := by decide +kernel
theorem dX3_init_38 : decode cX3_init 38 = .ok (.aload_n 0, 1) := by decide +kernel
theorem dX3_init_39 : decode cX3_init 39 = .ok (.iconst 0, 1) := by decide +kernel
theorem dX3_init_40 : decode cX3_init 40 = .ok (.putfield 26, 3) := by decide +kernel
theorem dX3_init_43 : decode cX3_init 43 = .ok (.aload_n 0, 1) := by decide +kernel
theorem dX3_init_44 : decode cX3_init 44 = .ok (.lconst 0, 1) := by decide +kernel
theorem dX3_init_45 : decode cX3_init 45 = .ok (.putfield 29, 3) := by decide +kernel
theorem dX3_init_48 : decode cX3_init 48 = .ok (.return_, 1) := by decide +kernel
theorem dX3_above_0 : decode cX3_above 0 = .ok (.iload_n 0, 1) := by decide +kernel
theorem dX3_above_1 : decode cX3_above 1 = .ok (.iconst 0, 1) := by decide +kernel
theorem dX3_above_2 : decode cX3_above 2 = .ok (.getstatic 33, 3) := by decide +kernel
theorem dX3_above_5 : decode cX3_above 5 = .ok (.arraylength, 1) := by decide +kernel
theorem dX3_above_6 : decode cX3_above 6 = .ok (.iconst 1, 1) := by decide +kernel
theorem dX3_above_7 : decode cX3_above 7 = .ok (.isub, 1) := by decide +kernel
theorem dX3_above_8 : decode cX3_above 8 = .ok (.invokestatic 36, 3) := by decide +kernel
theorem dX3_above_11 : decode cX3_above 11 = .ok (.ifCond .eq 11, 3) := by decide +kernel
theorem dX3_above_14 : decode cX3_above 14 = .ok (.getstatic 33, 3) := by decide +kernel
theorem dX3_above_17 : decode cX3_above 17 = .ok (.iload_n 0, 1) := by decide +kernel
theorem dX3_above_18 : decode cX3_above 18 = .ok (.iaload, 1) := by decide +kernel
theorem dX3_above_19 : decode cX3_above 19 = .ok (.goto 4, 3) := by decide +kernel
theorem dX3_above_22 : decode cX3_above 22 = .ok (.iconst (-1), 1) := by decide +kernel
theorem dX3_above_23 : decode cX3_above 23 = .ok (.ireturn, 1) := by decide +kernel
theorem dX3_isOf_0 : decode cX3_isOf 0 = .ok (.iload_n 0, 1) := by decide +kernel
theorem dX3_isOf_1 : decode cX3_isOf 1 = .ok (.istore_n 2, 1) := by decide +kernel
theorem dX3_isOf_2 : decode cX3_isOf 2 = .ok (.iconst 0, 1) := by decide +kernel
theorem dX3_isOf_3 : decode cX3_isOf 3 = .ok (.istore_n 3, 1) := by decide +kernel
theorem dX3_isOf_4 : decode cX3_isOf 4 = .ok (.iload_n 3, 1) := by decide +kernel
theorem dX3_isOf_5 : decode cX3_isOf 5 = .ok (.bipush 7, 2) := by decide +kernel
theorem dX3_isOf_7 : decode cX3_isOf 7 = .ok (.if_icmp .ge 25, 3) := by decide +kernel
theorem dX3_isOf_10 : decode cX3_isOf 10 = .ok (.iload_n 2, 1) := by decide +kernel
theorem dX3_isOf_11 : decode cX3_isOf 11 = .ok (.ifCond .lt 21, 3) := by decide +kernel
theorem dX3_isOf_14 : decode cX3_isOf 14 = .ok (.iload_n 2, 1) := by decide +kernel
theorem dX3_isOf_15 : decode cX3_isOf 15 = .ok (.iload_n 1, 1) := by decide +kernel
theorem dX3_isOf_16 : decode cX3_isOf 16 = .ok (.if_icmp .ne 5, 3) := by decide +kernel
theorem dX3_isOf_19 : decode cX3_isOf 19 = .ok (.iconst 1, 1) := by decide +kernel
theorem dX3_isOf_20 : decode cX3_isOf 20 = .ok (.ireturn, 1) := by decide +kernel
theorem dX3_isOf_21 : decode cX3_isOf 21 = .ok (.iload_n 2, 1) := by decide +kernel
theorem dX3_isOf_22 : decode cX3_isOf 22 = .ok (.invokestatic 42, 3) := by decide +kernel
theorem dX3_isOf_25 : decode cX3_isOf 25 = .ok (.istore_n 2, 1) := by decide +kernel
theorem dX3_isOf_26 : decode cX3_isOf 26 = .ok (.iinc 3 1, 3) := by decide +kernel
theorem dX3_isOf_29 : decode cX3_isOf 29 = .ok (.goto (-25), 3) := by decide +kernel
theorem dX3_isOf_32 : decode cX3_isOf 32 = .ok (.iconst 0, 1) := by decide +kernel
theorem dX3_isOf_33 : decode cX3_isOf 33 = .ok (.ireturn, 1) := by decide +kernel
theorem dX3_throwsRays_0 : decode cX3_throwsRays 0 = .ok (.iload_n 0, 1) := by decide +kernel
theorem dX3_throwsRays_1 : decode cX3_throwsRays 1 = .ok (.iconst 1, 1) := by decide +kernel
theorem dX3_throwsRays_2 : decode cX3_throwsRays 2 = .ok (.if_icmp .eq 13, 3) := by decide +kernel
theorem dX3_throwsRays_5 : decode cX3_throwsRays 5 = .ok (.iload_n 0, 1) := by decide +kernel
theorem dX3_throwsRays_6 : decode cX3_throwsRays 6 = .ok (.iconst 4, 1) := by decide +kernel
theorem dX3_throwsRays_7 : decode cX3_throwsRays 7 = .ok (.if_icmp .eq 8, 3) := by decide +kernel
theorem dX3_throwsRays_10 : decode cX3_throwsRays 10 = .ok (.iload_n 0, 1) := by decide +kernel
theorem dX3_throwsRays_11 : decode cX3_throwsRays 11 = .ok (.iconst 5, 1) := by decide +kernel
theorem dX3_throwsRays_12 : decode cX3_throwsRays 12 = .ok (.if_icmp .ne 7, 3) := by decide +kernel
theorem dX3_throwsRays_15 : decode cX3_throwsRays 15 = .ok (.iconst 1, 1) := by decide +kernel
theorem dX3_throwsRays_16 : decode cX3_throwsRays 16 = .ok (.goto 4, 3) := by decide +kernel
theorem dX3_throwsRays_19 : decode cX3_throwsRays 19 = .ok (.iconst 0, 1) := by decide +kernel
theorem dX3_throwsRays_20 : decode cX3_throwsRays 20 = .ok (.ireturn, 1) := by decide +kernel
theorem dX3_stopsRays_0 : decode cX3_stopsRays 0 = .ok (.iload_n 0, 1) := by decide +kernel
theorem dX3_stopsRays_1 : decode cX3_stopsRays 1 = .ok (.iconst 3, 1) := by decide +kernel
theorem dX3_stopsRays_2 : decode cX3_stopsRays 2 = .ok (.if_icmp .eq 9, 3) := by decide +kernel
theorem dX3_stopsRays_5 : decode cX3_stopsRays 5 = .ok (.iload_n 0, 1) := by decide +kernel
theorem dX3_stopsRays_6 : decode cX3_stopsRays 6 = .ok (.bipush 6, 2) := by decide +kernel
theorem dX3_stopsRays_8 : decode cX3_stopsRays 8 = .ok (.if_icmp .ne 7, 3) := by decide +kernel
theorem dX3_stopsRays_11 : decode cX3_stopsRays 11 = .ok (.iconst 1, 1) := by decide +kernel
theorem dX3_stopsRays_12 : decode cX3_stopsRays 12 = .ok (.goto 4, 3) := by decide +kernel
theorem dX3_stopsRays_15 : decode cX3_stopsRays 15 = .ok (.iconst 0, 1) := by decide +kernel
theorem dX3_stopsRays_16 : decode cX3_stopsRays 16 = .ok (.ireturn, 1) := by decide +kernel
theorem dX3_squares_0 : decode cX3_squares 0 = .ok (.aload_n 0, 1) := by decide +kernel
theorem dX3_squares_1 : decode cX3_squares 1 = .ok (.getfield 7, 3) := by decide +kernel
theorem dX3_squares_4 : decode cX3_squares 4 = .ok (.aload_n 0, 1) := by decide +kernel
theorem dX3_squares_5 : decode cX3_squares 5 = .ok (.getfield 13, 3) := by decide +kernel
theorem dX3_squares_8 : decode cX3_squares 8 = .ok (.imul, 1) := by decide +kernel
theorem dX3_squares_9 : decode cX3_squares 9 = .ok (.ireturn, 1) := by decide +kernel
theorem dX3_windows_0 : decode cX3_windows 0 = .ok (.iconst 2, 1) := by decide +kernel
theorem dX3_windows_1 : decode cX3_windows 1 = .ok (.aload_n 0, 1) := by decide +kernel
theorem dX3_windows_2 : decode cX3_windows 2 = .ok (.getfield 7, 3) := by decide +kernel
theorem dX3_windows_5 : decode cX3_windows 5 = .ok (.aload_n 0, 1) := by decide +kernel
theorem dX3_windows_6 : decode cX3_windows 6 = .ok (.getfield 13, 3) := by decide +kernel
theorem dX3_windows_9 : decode cX3_windows 9 = .ok (.iadd, 1) := by decide +kernel
theorem dX3_windows_10 : decode cX3_windows 10 = .ok (.imul, 1) := by decide +kernel
theorem dX3_windows_11 : decode cX3_windows 11 = .ok (.ireturn, 1) := by decide +kernel
theorem dX3_hasSquare_0 : decode cX3_hasSquare 0 = .ok (.iload_n 1, 1) := by decide +kernel
theorem dX3_hasSquare_1 : decode cX3_hasSquare 1 = .ok (.iconst 0, 1) := by decide +kernel
theorem dX3_hasSquare_2 : decode cX3_hasSquare 2 = .ok (.aload_n 0, 1) := by decide +kernel
theorem dX3_hasSquare_3 : decode cX3_hasSquare 3 = .ok (.invokevirtual 46, 3) := by decide +kernel
theorem dX3_hasSquare_6 : decode cX3_hasSquare 6 = .ok (.iconst 1, 1) := by decide +kernel
theorem dX3_hasSquare_7 : decode cX3_hasSquare 7 = .ok (.isub, 1) := by decide +kernel
theorem dX3_hasSquare_8 : decode cX3_hasSquare 8 = .ok (.invokestatic 36, 3) := by decide +kernel
theorem dX3_hasSquare_11 : decode cX3_hasSquare 11 = .ok (.ireturn, 1) := by decide +kernel
theorem dX3_hasWindow_0 : decode cX3_hasWindow 0 = .ok (.iload_n 1, 1) := by decide +kernel
theorem dX3_hasWindow_1 : decode cX3_hasWindow 1 = .ok (.iconst 0, 1) := by decide +kernel
theorem dX3_hasWindow_2 : decode cX3_hasWindow 2 = .ok (.aload_n 0, 1) := by decide +kernel
theorem dX3_hasWindow_3 : decode cX3_hasWindow 3 = .ok (.invokevirtual 50, 3) := by decide +kernel
theorem dX3_hasWindow_6 : decode cX3_hasWindow 6 = .ok (.iconst 1, 1) := by decide +kernel
theorem dX3_hasWindow_7 : decode cX3_hasWindow 7 = .ok (.isub, 1) := by decide +kernel
theorem dX3_hasWindow_8 : decode cX3_hasWindow 8 = .ok (.invokestatic 36, 3) := by decide +kernel
theorem dX3_hasWindow_11 : decode cX3_hasWindow 11 = .ok (.ireturn, 1) := by decide +kernel
theorem dX3_hasMask_0 : decode cX3_hasMask 0 = .ok (.iload_n 1, 1) := by decide +kernel
theorem dX3_hasMask_1 : decode cX3_hasMask 1 = .ok (.iconst 0, 1) := by decide +kernel
theorem dX3_hasMask_2 : decode cX3_hasMask 2 = .ok (.iconst 1, 1) := by decide +kernel
theorem dX3_hasMask_3 : decode cX3_hasMask 3 = .ok (.aload_n 0, 1) := by decide +kernel
theorem dX3_hasMask_4 : decode cX3_hasMask 4 = .ok (.invokevirtual 46, 3) := by decide +kernel
theorem dX3_hasMask_7 : decode cX3_hasMask 7 = .ok (.ishl, 1) := by decide +kernel
theorem dX3_hasMask_8 : decode cX3_hasMask 8 = .ok (.iconst 1, 1) := by decide +kernel
theorem dX3_hasMask_9 : decode cX3_hasMask 9 = .ok (.isub, 1) := by decide +kernel
theorem dX3_hasMask_10 : decode cX3_hasMask 10 = .ok (.invokestatic 36, 3) := by decide +kernel
theorem dX3_hasMask_13 : decode cX3_hasMask 13 = .ok (.ireturn, 1) := by decide +kernel
theorem dX3_isSizedAs_0 : decode cX3_isSizedAs 0 = .ok (.aload_n 0, 1) := by decide +kernel
theorem dX3_isSizedAs_1 : decode cX3_isSizedAs 1 = .ok (.getfield 7, 3) := by decide +kernel
theorem dX3_isSizedAs_4 : decode cX3_isSizedAs 4 = .ok (.aload_n 1, 1) := by decide +kernel
theorem dX3_isSizedAs_5 : decode cX3_isSizedAs 5 = .ok (.getfield 7, 3) := by decide +kernel
theorem dX3_isSizedAs_8 : decode cX3_isSizedAs 8 = .ok (.if_icmp .ne 18, 3) := by decide +kernel
theorem dX3_isSizedAs_11 : decode cX3_isSizedAs 11 = .ok (.aload_n 0, 1) := by decide +kernel
theorem dX3_isSizedAs_12 : decode cX3_isSizedAs 12 = .ok (.getfield 13, 3) := by decide +kernel
theorem dX3_isSizedAs_15 : decode cX3_isSizedAs 15 = .ok (.aload_n 1, 1) := by decide +kernel
theorem dX3_isSizedAs_16 : decode cX3_isSizedAs 16 = .ok (.getfield 13, 3) := by decide +kernel
theorem dX3_isSizedAs_19 : decode cX3_isSizedAs 19 = .ok (.if_icmp .ne 7, 3) := by decide +kernel
theorem dX3_isSizedAs_22 : decode cX3_isSizedAs 22 = .ok (.iconst 1, 1) := by decide +kernel
theorem dX3_isSizedAs_23 : decode cX3_isSizedAs 23 = .ok (.goto 4, 3) := by decide +kernel
theorem dX3_isSizedAs_26 : decode cX3_isSizedAs 26 = .ok (.iconst 0, 1) := by decide +kernel
theorem dX3_isSizedAs_27 : decode cX3_isSizedAs 27 = .ok (.ireturn, 1) := by decide +kernel
theorem dX3_clear_0 : decode cX3_clear 0 = .ok (.aload_n 0, 1) := by decide +kernel
theorem dX3_clear_1 : decode cX3_clear 1 = .ok (.iload_n 1, 1) := by decide +kernel
theorem dX3_clear_2 : decode cX3_clear 2 = .ok (.putfield 7, 3) := by decide +kernel
theorem dX3_clear_5 : decode cX3_clear 5 = .ok (.aload_n 0, 1) := by decide +kernel
theorem dX3_clear_6 : decode cX3_clear 6 = .ok (.iload_n 2, 1) := by decide +kernel
theorem dX3_clear_7 : decode cX3_clear 7 = .ok (.putfield 13, 3) := by decide +kernel
theorem dX3_clear_10 : decode cX3_clear 10 = .ok (.aload_n 0, 1) := by decide +kernel
theorem dX3_clear_11 : decode cX3_clear 11 = .ok (.getfield 16, 3) := by decide +kernel
theorem dX3_clear_14 : decode cX3_clear 14 = .ok (.iconst 0, 1) := by decide +kernel
theorem dX3_clear_15 : decode cX3_clear 15 = .ok (.invokestatic 53, 3) := by decide +kernel
theorem dX3_clear_18 : decode cX3_clear 18 = .ok (.aload_n 0, 1) := by decide +kernel
theorem dX3_clear_19 : decode cX3_clear 19 = .ok (.getfield 20, 3) := by decide +kernel
theorem dX3_clear_22 : decode cX3_clear 22 = .ok (.iconst 0, 1) := by decide +kernel
theorem dX3_clear_23 : decode cX3_clear 23 = .ok (.invokestatic 53, 3) := by decide +kernel
theorem dX3_clear_26 : decode cX3_clear 26 = .ok (.aload_n 0, 1) := by decide +kernel
theorem dX3_clear_27 : decode cX3_clear 27 = .ok (.getfield 23, 3) := by decide +kernel
theorem dX3_clear_30 : decode cX3_clear 30 = .ok (.iconst 0, 1) := by decide +kernel
theorem dX3_clear_31 : decode cX3_clear 31 = .ok (.invokestatic 53, 3) := by decide +kernel
theorem dX3_clear_34 : decode cX3_clear 34 = .ok (.aload_n 0, 1) := by decide +kernel
theorem dX3_clear_35 : decode cX3_clear 35 = .ok (.iconst 0, 1) := by decide +kernel
theorem dX3_clear_36 : decode cX3_clear 36 = .ok (.putfield 26, 3) := by decide +kernel
theorem dX3_clear_39 : decode cX3_clear 39 = .ok (.aload_n 0, 1) := by decide +kernel
theorem dX3_clear_40 : decode cX3_clear 40 = .ok (.lconst 0, 1) := by decide +kernel
theorem dX3_clear_41 : decode cX3_clear 41 = .ok (.putfield 29, 3) := by decide +kernel
theorem dX3_clear_44 : decode cX3_clear 44 = .ok (.return_, 1) := by decide +kernel
theorem dX3_copyFrom_0 : decode cX3_copyFrom 0 = .ok (.aload_n 0, 1) := by decide +kernel
theorem dX3_copyFrom_1 : decode cX3_copyFrom 1 = .ok (.aload_n 1, 1) := by decide +kernel
theorem dX3_copyFrom_2 : decode cX3_copyFrom 2 = .ok (.getfield 7, 3) := by decide +kernel
theorem dX3_copyFrom_5 : decode cX3_copyFrom 5 = .ok (.putfield 7, 3) := by decide +kernel
theorem dX3_copyFrom_8 : decode cX3_copyFrom 8 = .ok (.aload_n 0, 1) := by decide +kernel
theorem dX3_copyFrom_9 : decode cX3_copyFrom 9 = .ok (.aload_n 1, 1) := by decide +kernel
theorem dX3_copyFrom_10 : decode cX3_copyFrom 10 = .ok (.getfield 13, 3) := by decide +kernel
theorem dX3_copyFrom_13 : decode cX3_copyFrom 13 = .ok (.putfield 13, 3) := by decide +kernel
theorem dX3_copyFrom_16 : decode cX3_copyFrom 16 = .ok (.aload_n 1, 1) := by decide +kernel
theorem dX3_copyFrom_17 : decode cX3_copyFrom 17 = .ok (.getfield 16, 3) := by decide +kernel
theorem dX3_copyFrom_20 : decode cX3_copyFrom 20 = .ok (.iconst 0, 1) := by decide +kernel
theorem dX3_copyFrom_21 : decode cX3_copyFrom 21 = .ok (.aload_n 0, 1) := by decide +kernel
theorem dX3_copyFrom_22 : decode cX3_copyFrom 22 = .ok (.getfield 16, 3) := by decide +kernel
theorem dX3_copyFrom_25 : decode cX3_copyFrom 25 = .ok (.iconst 0, 1) := by decide +kernel
theorem dX3_copyFrom_26 : decode cX3_copyFrom 26 = .ok (.bipush 25, 2) := by decide +kernel
theorem dX3_copyFrom_28 : decode cX3_copyFrom 28 = .ok (.invokestatic 59, 3) := by decide +kernel
theorem dX3_copyFrom_31 : decode cX3_copyFrom 31 = .ok (.aload_n 1, 1) := by decide +kernel
theorem dX3_copyFrom_32 : decode cX3_copyFrom 32 = .ok (.getfield 20, 3) := by decide +kernel
theorem dX3_copyFrom_35 : decode cX3_copyFrom 35 = .ok (.iconst 0, 1) := by decide +kernel
theorem dX3_copyFrom_36 : decode cX3_copyFrom 36 = .ok (.aload_n 0, 1) := by decide +kernel
theorem dX3_copyFrom_37 : decode cX3_copyFrom 37 = .ok (.getfield 20, 3) := by decide +kernel
theorem dX3_copyFrom_40 : decode cX3_copyFrom 40 = .ok (.iconst 0, 1) := by decide +kernel
theorem dX3_copyFrom_41 : decode cX3_copyFrom 41 = .ok (.bipush 25, 2) := by decide +kernel
theorem dX3_copyFrom_43 : decode cX3_copyFrom 43 = .ok (.invokestatic 59, 3) := by decide +kernel
theorem dX3_copyFrom_46 : decode cX3_copyFrom 46 = .ok (.aload_n 1, 1) := by decide +kernel
theorem dX3_copyFrom_47 : decode cX3_copyFrom 47 = .ok (.getfield 23, 3) := by decide +kernel
theorem dX3_copyFrom_50 : decode cX3_copyFrom 50 = .ok (.iconst 0, 1) := by decide +kernel
theorem dX3_copyFrom_51 : decode cX3_copyFrom 51 = .ok (.aload_n 0, 1) := by decide +kernel
theorem dX3_copyFrom_52 : decode cX3_copyFrom 52 = .ok (.getfield 23, 3) := by decide +kernel
theorem dX3_copyFrom_55 : decode cX3_copyFrom 55 = .ok (.iconst 0, 1) := by decide +kernel
theorem dX3_copyFrom_56 : decode cX3_copyFrom 56 = .ok (.bipush 25, 2) := by decide +kernel
theorem dX3_copyFrom_58 : decode cX3_copyFrom 58 = .ok (.invokestatic 59, 3) := by decide +kernel
theorem dX3_copyFrom_61 : decode cX3_copyFrom 61 = .ok (.aload_n 0, 1) := by decide +kernel
theorem dX3_copyFrom_62 : decode cX3_copyFrom 62 = .ok (.aload_n 1, 1) := by decide +kernel
theorem dX3_copyFrom_63 : decode cX3_copyFrom 63 = .ok (.invokevirtual 65, 3) := by decide +kernel
theorem dX3_copyFrom_66 : decode cX3_copyFrom 66 = .ok (.return_, 1) := by decide +kernel
theorem dX3_standAs_0 : decode cX3_standAs 0 = .ok (.aload_n 0, 1) := by decide +kernel
theorem dX3_standAs_1 : decode cX3_standAs 1 = .ok (.aload_n 1, 1) := by decide +kernel
theorem dX3_standAs_2 : decode cX3_standAs 2 = .ok (.getfield 26, 3) := by decide +kernel
theorem dX3_standAs_5 : decode cX3_standAs 5 = .ok (.aload_n 1, 1) := by decide +kernel
theorem dX3_standAs_6 : decode cX3_standAs 6 = .ok (.getfield 29, 3) := by decide +kernel
theorem dX3_standAs_9 : decode cX3_standAs 9 = .ok (.invokevirtual 69, 3) := by decide +kernel
theorem dX3_standAs_12 : decode cX3_standAs 12 = .ok (.return_, 1) := by decide +kernel
theorem dX3_stand_0 : decode cX3_stand 0 = .ok (.aload_n 0, 1) := by decide +kernel
theorem dX3_stand_1 : decode cX3_stand 1 = .ok (.iload_n 1, 1) := by decide +kernel
theorem dX3_stand_2 : decode cX3_stand 2 = .ok (.putfield 26, 3) := by decide +kernel
theorem dX3_stand_5 : decode cX3_stand 5 = .ok (.aload_n 0, 1) := by decide +kernel
theorem dX3_stand_6 : decode cX3_stand 6 = .ok (.lload_n 2, 1) := by decide +kernel
theorem dX3_stand_7 : decode cX3_stand 7 = .ok (.putfield 29, 3) := by decide +kernel
theorem dX3_stand_10 : decode cX3_stand 10 = .ok (.return_, 1) := by decide +kernel
theorem dX3_standsAs_0 : decode cX3_standsAs 0 = .ok (.aload_n 0, 1) := by decide +kernel
theorem dX3_standsAs_1 : decode cX3_standsAs 1 = .ok (.getfield 26, 3) := by decide +kernel
theorem dX3_standsAs_4 : decode cX3_standsAs 4 = .ok (.aload_n 1, 1) := by decide +kernel
theorem dX3_standsAs_5 : decode cX3_standsAs 5 = .ok (.getfield 26, 3) := by decide +kernel
theorem dX3_standsAs_8 : decode cX3_standsAs 8 = .ok (.if_icmp .ne 19, 3) := by decide +kernel
theorem dX3_standsAs_11 : decode cX3_standsAs 11 = .ok (.aload_n 0, 1) := by decide +kernel
theorem dX3_standsAs_12 : decode cX3_standsAs 12 = .ok (.getfield 29, 3) := by decide +kernel
theorem dX3_standsAs_15 : decode cX3_standsAs 15 = .ok (.aload_n 1, 1) := by decide +kernel
theorem dX3_standsAs_16 : decode cX3_standsAs 16 = .ok (.getfield 29, 3) := by decide +kernel
theorem dX3_standsAs_19 : decode cX3_standsAs 19 = .ok (.lcmp, 1) := by decide +kernel
theorem dX3_standsAs_20 : decode cX3_standsAs 20 = .ok (.ifCond .ne 7, 3) := by decide +kernel
theorem dX3_standsAs_23 : decode cX3_standsAs 23 = .ok (.iconst 1, 1) := by decide +kernel
theorem dX3_standsAs_24 : decode cX3_standsAs 24 = .ok (.goto 4, 3) := by decide +kernel
theorem dX3_standsAs_27 : decode cX3_standsAs 27 = .ok (.iconst 0, 1) := by decide +kernel
theorem dX3_standsAs_28 : decode cX3_standsAs 28 = .ok (.ireturn, 1) := by decide +kernel
theorem dX3_become_0 : decode cX3_become 0 = .ok (.aload_n 0, 1) := by decide +kernel
theorem dX3_become_1 : decode cX3_become 1 = .ok (.getfield 16, 3) := by decide +kernel
theorem dX3_become_4 : decode cX3_become 4 = .ok (.iload_n 1, 1) := by decide +kernel
theorem dX3_become_5 : decode cX3_become 5 = .ok (.iload_n 2, 1) := by decide +kernel
theorem dX3_become_6 : decode cX3_become 6 = .ok (.iastore, 1) := by decide +kernel
theorem dX3_become_7 : decode cX3_become 7 = .ok (.aload_n 0, 1) := by decide +kernel
theorem dX3_become_8 : decode cX3_become 8 = .ok (.getfield 20, 3) := by decide +kernel
theorem dX3_become_11 : decode cX3_become 11 = .ok (.iload_n 1, 1) := by decide +kernel
theorem dX3_become_12 : decode cX3_become 12 = .ok (.iload_n 3, 1) := by decide +kernel
theorem dX3_become_13 : decode cX3_become 13 = .ok (.iastore, 1) := by decide +kernel
theorem dX3_become_14 : decode cX3_become 14 = .ok (.aload_n 0, 1) := by decide +kernel
theorem dX3_become_15 : decode cX3_become 15 = .ok (.aload_n 0, 1) := by decide +kernel
theorem dX3_become_16 : decode cX3_become 16 = .ok (.getfield 26, 3) := by decide +kernel
theorem dX3_become_19 : decode cX3_become 19 = .ok (.iconst 1, 1) := by decide +kernel
theorem dX3_become_20 : decode cX3_become 20 = .ok (.iload_n 1, 1) := by decide +kernel
theorem dX3_become_21 : decode cX3_become 21 = .ok (.ishl, 1) := by decide +kernel
theorem dX3_become_22 : decode cX3_become 22 = .ok (.iconst (-1), 1) := by decide +kernel
theorem dX3_become_23 : decode cX3_become 23 = .ok (.ixor, 1) := by decide +kernel
theorem dX3_become_24 : decode cX3_become 24 = .ok (.iand, 1) := by decide +kernel
theorem dX3_become_25 : decode cX3_become 25 = .ok (.iload 4, 2) := by decide +kernel
theorem dX3_become_27 : decode cX3_become 27 = .ok (.iload_n 1, 1) := by decide +kernel
theorem dX3_become_28 : decode cX3_become 28 = .ok (.ishl, 1) := by decide +kernel
theorem dX3_become_29 : decode cX3_become 29 = .ok (.ior, 1) := by decide +kernel
theorem dX3_become_30 : decode cX3_become 30 = .ok (.putfield 26, 3) := by decide +kernel
theorem dX3_become_33 : decode cX3_become 33 = .ok (.aload_n 0, 1) := by decide +kernel
theorem dX3_become_34 : decode cX3_become 34 = .ok (.iload_n 1, 1) := by decide +kernel
theorem dX3_become_35 : decode cX3_become 35 = .ok (.iconst 0, 1) := by decide +kernel
theorem dX3_become_36 : decode cX3_become 36 = .ok (.invokevirtual 73, 3) := by decide +kernel
theorem dX3_become_39 : decode cX3_become 39 = .ok (.return_, 1) := by decide +kernel
theorem dX3_slantOf_0 : decode cX3_slantOf 0 = .ok (.aload_n 0, 1) := by decide +kernel
theorem dX3_slantOf_1 : decode cX3_slantOf 1 = .ok (.getfield 26, 3) := by decide +kernel
theorem dX3_slantOf_4 : decode cX3_slantOf 4 = .ok (.iload_n 1, 1) := by decide +kernel
theorem dX3_slantOf_5 : decode cX3_slantOf 5 = .ok (.iushr, 1) := by decide +kernel
theorem dX3_slantOf_6 : decode cX3_slantOf 6 = .ok (.iconst 1, 1) := by decide +kernel
theorem dX3_slantOf_7 : decode cX3_slantOf 7 = .ok (.iand, 1) := by decide +kernel
theorem dX3_slantOf_8 : decode cX3_slantOf 8 = .ok (.ireturn, 1) := by decide +kernel
theorem dX3_timeOf_0 : decode cX3_timeOf 0 = .ok (.aload_n 0, 1) := by decide +kernel
theorem dX3_timeOf_1 : decode cX3_timeOf 1 = .ok (.getfield 29, 3) := by decide +kernel
theorem dX3_timeOf_4 : decode cX3_timeOf 4 = .ok (.iconst 2, 1) := by decide +kernel
theorem dX3_timeOf_5 : decode cX3_timeOf 5 = .ok (.iload_n 1, 1) := by decide +kernel
theorem dX3_timeOf_6 : decode cX3_timeOf 6 = .ok (.imul, 1) := by decide +kernel
theorem dX3_timeOf_7 : decode cX3_timeOf 7 = .ok (.lushr, 1) := by decide +kernel
theorem dX3_timeOf_8 : decode cX3_timeOf 8 = .ok (.ldc2_w 77, 3) := by decide +kernel
theorem dX3_timeOf_11 : decode cX3_timeOf 11 = .ok (.land, 1) := by decide +kernel
theorem dX3_timeOf_12 : decode cX3_timeOf 12 = .ok (.l2i, 1) := by decide +kernel
theorem dX3_timeOf_13 : decode cX3_timeOf 13 = .ok (.ireturn, 1) := by decide +kernel
theorem dX3_putTime_0 : decode cX3_putTime 0 = .ok (.aload_n 0, 1) := by decide +kernel
theorem dX3_putTime_1 : decode cX3_putTime 1 = .ok (.aload_n 0, 1) := by decide +kernel
theorem dX3_putTime_2 : decode cX3_putTime 2 = .ok (.getfield 29, 3) := by decide +kernel
theorem dX3_putTime_5 : decode cX3_putTime 5 = .ok (.ldc2_w 77, 3) := by decide +kernel
theorem dX3_putTime_8 : decode cX3_putTime 8 = .ok (.iconst 2, 1) := by decide +kernel
theorem dX3_putTime_9 : decode cX3_putTime 9 = .ok (.iload_n 1, 1) := by decide +kernel
theorem dX3_putTime_10 : decode cX3_putTime 10 = .ok (.imul, 1) := by decide +kernel
theorem dX3_putTime_11 : decode cX3_putTime 11 = .ok (.lshl, 1) := by decide +kernel
theorem dX3_putTime_12 : decode cX3_putTime 12 = .ok (.ldc2_w 79, 3) := by decide +kernel
theorem dX3_putTime_15 : decode cX3_putTime 15 = .ok (.lxor, 1) := by decide +kernel
theorem dX3_putTime_16 : decode cX3_putTime 16 = .ok (.land, 1) := by decide +kernel
theorem dX3_putTime_17 : decode cX3_putTime 17 = .ok (.iload_n 2, 1) := by decide +kernel
theorem dX3_putTime_18 : decode cX3_putTime 18 = .ok (.i2l, 1) := by decide +kernel
theorem dX3_putTime_19 : decode cX3_putTime 19 = .ok (.iconst 2, 1) := by decide +kernel
theorem dX3_putTime_20 : decode cX3_putTime 20 = .ok (.iload_n 1, 1) := by decide +kernel
theorem dX3_putTime_21 : decode cX3_putTime 21 = .ok (.imul, 1) := by decide +kernel
theorem dX3_putTime_22 : decode cX3_putTime 22 = .ok (.lshl, 1) := by decide +kernel
theorem dX3_putTime_23 : decode cX3_putTime 23 = .ok (.lor, 1) := by decide +kernel
theorem dX3_putTime_24 : decode cX3_putTime 24 = .ok (.putfield 29, 3) := by decide +kernel
theorem dX3_putTime_27 : decode cX3_putTime 27 = .ok (.return_, 1) := by decide +kernel
theorem dX3_handCan_0 : decode cX3_handCan 0 = .ok (.aload_n 0, 1) := by decide +kernel
theorem dX3_handCan_1 : decode cX3_handCan 1 = .ok (.getfield 16, 3) := by decide +kernel
theorem dX3_handCan_4 : decode cX3_handCan 4 = .ok (.iload_n 1, 1) := by decide +kernel
theorem dX3_handCan_5 : decode cX3_handCan 5 = .ok (.iaload, 1) := by decide +kernel
theorem dX3_handCan_6 : decode cX3_handCan 6 = .ok (.iconst 1, 1) := by decide +kernel
theorem dX3_handCan_7 : decode cX3_handCan 7 = .ok (.if_icmp .eq 13, 3) := by decide +kernel
theorem dX3_handCan_10 : decode cX3_handCan 10 = .ok (.aload_n 0, 1) := by decide +kernel
theorem dX3_handCan_11 : decode cX3_handCan 11 = .ok (.getfield 16, 3) := by decide +kernel
theorem dX3_handCan_14 : decode cX3_handCan 14 = .ok (.iload_n 1, 1) := by decide +kernel
theorem dX3_handCan_15 : decode cX3_handCan 15 = .ok (.iaload, 1) := by decide +kernel
theorem dX3_handCan_16 : decode cX3_handCan 16 = .ok (.iconst 5, 1) := by decide +kernel
theorem dX3_handCan_17 : decode cX3_handCan 17 = .ok (.if_icmp .ne 7, 3) := by decide +kernel
theorem dX3_handCan_20 : decode cX3_handCan 20 = .ok (.iconst 1, 1) := by decide +kernel
theorem dX3_handCan_21 : decode cX3_handCan 21 = .ok (.goto 4, 3) := by decide +kernel
theorem dX3_handCan_24 : decode cX3_handCan 24 = .ok (.iconst 0, 1) := by decide +kernel
theorem dX3_handCan_25 : decode cX3_handCan 25 = .ok (.ireturn, 1) := by decide +kernel
theorem dX3_flip_0 : decode cX3_flip 0 = .ok (.aload_n 0, 1) := by decide +kernel
theorem dX3_flip_1 : decode cX3_flip 1 = .ok (.dup, 1) := by decide +kernel
theorem dX3_flip_2 : decode cX3_flip 2 = .ok (.getfield 26, 3) := by decide +kernel
theorem dX3_flip_5 : decode cX3_flip 5 = .ok (.iconst 1, 1) := by decide +kernel
theorem dX3_flip_6 : decode cX3_flip 6 = .ok (.iload_n 1, 1) := by decide +kernel
theorem dX3_flip_7 : decode cX3_flip 7 = .ok (.ishl, 1) := by decide +kernel
theorem dX3_flip_8 : decode cX3_flip 8 = .ok (.ixor, 1) := by decide +kernel
theorem dX3_flip_9 : decode cX3_flip 9 = .ok (.putfield 26, 3) := by decide +kernel
theorem dX3_flip_12 : decode cX3_flip 12 = .ok (.return_, 1) := by decide +kernel
theorem dX3_slowness_0 : decode cX3_slowness 0 = .ok (.iconst 2, 1) := by decide +kernel
theorem dX3_slowness_1 : decode cX3_slowness 1 = .ok (.aload_n 0, 1) := by decide +kernel
theorem dX3_slowness_2 : decode cX3_slowness 2 = .ok (.getfield 20, 3) := by decide +kernel
theorem dX3_slowness_5 : decode cX3_slowness 5 = .ok (.iload_n 1, 1) := by decide +kernel
theorem dX3_slowness_6 : decode cX3_slowness 6 = .ok (.iaload, 1) := by decide +kernel
theorem dX3_slowness_7 : decode cX3_slowness 7 = .ok (.iconst 3, 1) := by decide +kernel
theorem dX3_slowness_8 : decode cX3_slowness 8 = .ok (.irem, 1) := by decide +kernel
theorem dX3_slowness_9 : decode cX3_slowness 9 = .ok (.iadd, 1) := by decide +kernel
theorem dX3_slowness_10 : decode cX3_slowness 10 = .ok (.ireturn, 1) := by decide +kernel
theorem dX3_turnByRay_0 : decode cX3_turnByRay 0 = .ok (.aload_n 0, 1) := by decide +kernel
theorem dX3_turnByRay_1 : decode cX3_turnByRay 1 = .ok (.getfield 16, 3) := by decide +kernel
theorem dX3_turnByRay_4 : decode cX3_turnByRay 4 = .ok (.iload_n 1, 1) := by decide +kernel
theorem dX3_turnByRay_5 : decode cX3_turnByRay 5 = .ok (.iaload, 1) := by decide +kernel
theorem dX3_turnByRay_6 : decode cX3_turnByRay 6 = .ok (.iconst 1, 1) := by decide +kernel
theorem dX3_turnByRay_7 : decode cX3_turnByRay 7 = .ok (.if_icmp .ne 11, 3) := by decide +kernel
theorem dX3_turnByRay_10 : decode cX3_turnByRay 10 = .ok (.aload_n 0, 1) := by decide +kernel
theorem dX3_turnByRay_11 : decode cX3_turnByRay 11 = .ok (.iload_n 1, 1) := by decide +kernel
theorem dX3_turnByRay_12 : decode cX3_turnByRay 12 = .ok (.invokevirtual 81, 3) := by decide +kernel
theorem dX3_turnByRay_15 : decode cX3_turnByRay 15 = .ok (.goto 59, 3) := by decide +kernel
theorem dX3_turnByRay_18 : decode cX3_turnByRay 18 = .ok (.aload_n 0, 1) := by decide +kernel
theorem dX3_turnByRay_19 : decode cX3_turnByRay 19 = .ok (.getfield 16, 3) := by decide +kernel
theorem dX3_turnByRay_22 : decode cX3_turnByRay 22 = .ok (.iload_n 1, 1) := by decide +kernel
theorem dX3_turnByRay_23 : decode cX3_turnByRay 23 = .ok (.iaload, 1) := by decide +kernel
theorem dX3_turnByRay_24 : decode cX3_turnByRay 24 = .ok (.iconst 5, 1) := by decide +kernel
theorem dX3_turnByRay_25 : decode cX3_turnByRay 25 = .ok (.if_icmp .ne 49, 3) := by decide +kernel
theorem dX3_turnByRay_28 : decode cX3_turnByRay 28 = .ok (.aload_n 0, 1) := by decide +kernel
theorem dX3_turnByRay_29 : decode cX3_turnByRay 29 = .ok (.iload_n 1, 1) := by decide +kernel
theorem dX3_turnByRay_30 : decode cX3_turnByRay 30 = .ok (.invokevirtual 85, 3) := by decide +kernel
theorem dX3_turnByRay_33 : decode cX3_turnByRay 33 = .ok (.iconst 1, 1) := by decide +kernel
theorem dX3_turnByRay_34 : decode cX3_turnByRay 34 = .ok (.iadd, 1) := by decide +kernel
theorem dX3_turnByRay_35 : decode cX3_turnByRay 35 = .ok (.istore_n 2, 1) := by decide +kernel
theorem dX3_turnByRay_36 : decode cX3_turnByRay 36 = .ok (.iload_n 2, 1) := by decide +kernel
theorem dX3_turnByRay_37 : decode cX3_turnByRay 37 = .ok (.aload_n 0, 1) := by decide +kernel
theorem dX3_turnByRay_38 : decode cX3_turnByRay 38 = .ok (.iload_n 1, 1) := by decide +kernel
theorem dX3_turnByRay_39 : decode cX3_turnByRay 39 = .ok (.invokevirtual 88, 3) := by decide +kernel
theorem dX3_turnByRay_42 : decode cX3_turnByRay 42 = .ok (.if_icmp .ne 7, 3) := by decide +kernel
theorem dX3_turnByRay_45 : decode cX3_turnByRay 45 = .ok (.iconst 1, 1) := by decide +kernel
theorem dX3_turnByRay_46 : decode cX3_turnByRay 46 = .ok (.goto 4, 3) := by decide +kernel
theorem dX3_turnByRay_49 : decode cX3_turnByRay 49 = .ok (.iconst 0, 1) := by decide +kernel
theorem dX3_turnByRay_50 : decode cX3_turnByRay 50 = .ok (.istore_n 3, 1) := by decide +kernel
theorem dX3_turnByRay_51 : decode cX3_turnByRay 51 = .ok (.aload_n 0, 1) := by decide +kernel
theorem dX3_turnByRay_52 : decode cX3_turnByRay 52 = .ok (.iload_n 1, 1) := by decide +kernel
theorem dX3_turnByRay_53 : decode cX3_turnByRay 53 = .ok (.iload_n 3, 1) := by decide +kernel
theorem dX3_turnByRay_54 : decode cX3_turnByRay 54 = .ok (.ifCond .eq 7, 3) := by decide +kernel
theorem dX3_turnByRay_57 : decode cX3_turnByRay 57 = .ok (.iconst 0, 1) := by decide +kernel
theorem dX3_turnByRay_58 : decode cX3_turnByRay 58 = .ok (.goto 4, 3) := by decide +kernel
theorem dX3_turnByRay_61 : decode cX3_turnByRay 61 = .ok (.iload_n 2, 1) := by decide +kernel
theorem dX3_turnByRay_62 : decode cX3_turnByRay 62 = .ok (.invokevirtual 73, 3) := by decide +kernel
theorem dX3_turnByRay_65 : decode cX3_turnByRay 65 = .ok (.iload_n 3, 1) := by decide +kernel
theorem dX3_turnByRay_66 : decode cX3_turnByRay 66 = .ok (.ifCond .eq 8, 3) := by decide +kernel
theorem dX3_turnByRay_69 : decode cX3_turnByRay 69 = .ok (.aload_n 0, 1) := by decide +kernel
theorem dX3_turnByRay_70 : decode cX3_turnByRay 70 = .ok (.iload_n 1, 1) := by decide +kernel
theorem dX3_turnByRay_71 : decode cX3_turnByRay 71 = .ok (.invokevirtual 81, 3) := by decide +kernel
theorem dX3_turnByRay_74 : decode cX3_turnByRay 74 = .ok (.return_, 1) := by decide +kernel
theorem dX3_turnBack_0 : decode cX3_turnBack 0 = .ok (.aload_n 0, 1) := by decide +kernel
theorem dX3_turnBack_1 : decode cX3_turnBack 1 = .ok (.getfield 16, 3) := by decide +kernel
theorem dX3_turnBack_4 : decode cX3_turnBack 4 = .ok (.iload_n 1, 1) := by decide +kernel
theorem dX3_turnBack_5 : decode cX3_turnBack 5 = .ok (.iaload, 1) := by decide +kernel
theorem dX3_turnBack_6 : decode cX3_turnBack 6 = .ok (.iconst 1, 1) := by decide +kernel
theorem dX3_turnBack_7 : decode cX3_turnBack 7 = .ok (.if_icmp .ne 11, 3) := by decide +kernel
theorem dX3_turnBack_10 : decode cX3_turnBack 10 = .ok (.aload_n 0, 1) := by decide +kernel
theorem dX3_turnBack_11 : decode cX3_turnBack 11 = .ok (.iload_n 1, 1) := by decide +kernel
theorem dX3_turnBack_12 : decode cX3_turnBack 12 = .ok (.invokevirtual 81, 3) := by decide +kernel
theorem dX3_turnBack_15 : decode cX3_turnBack 15 = .ok (.goto 50, 3) := by decide +kernel
theorem dX3_turnBack_18 : decode cX3_turnBack 18 = .ok (.aload_n 0, 1) := by decide +kernel
theorem dX3_turnBack_19 : decode cX3_turnBack 19 = .ok (.getfield 16, 3) := by decide +kernel
theorem dX3_turnBack_22 : decode cX3_turnBack 22 = .ok (.iload_n 1, 1) := by decide +kernel
theorem dX3_turnBack_23 : decode cX3_turnBack 23 = .ok (.iaload, 1) := by decide +kernel
theorem dX3_turnBack_24 : decode cX3_turnBack 24 = .ok (.iconst 5, 1) := by decide +kernel
theorem dX3_turnBack_25 : decode cX3_turnBack 25 = .ok (.if_icmp .ne 40, 3) := by decide +kernel
theorem dX3_turnBack_28 : decode cX3_turnBack 28 = .ok (.aload_n 0, 1) := by decide +kernel
theorem dX3_turnBack_29 : decode cX3_turnBack 29 = .ok (.iload_n 1, 1) := by decide +kernel
theorem dX3_turnBack_30 : decode cX3_turnBack 30 = .ok (.invokevirtual 85, 3) := by decide +kernel
theorem dX3_turnBack_33 : decode cX3_turnBack 33 = .ok (.istore_n 2, 1) := by decide +kernel
theorem dX3_turnBack_34 : decode cX3_turnBack 34 = .ok (.aload_n 0, 1) := by decide +kernel
theorem dX3_turnBack_35 : decode cX3_turnBack 35 = .ok (.iload_n 1, 1) := by decide +kernel
theorem dX3_turnBack_36 : decode cX3_turnBack 36 = .ok (.iload_n 2, 1) := by decide +kernel
theorem dX3_turnBack_37 : decode cX3_turnBack 37 = .ok (.ifCond .ne 13, 3) := by decide +kernel
theorem dX3_turnBack_40 : decode cX3_turnBack 40 = .ok (.aload_n 0, 1) := by decide +kernel
theorem dX3_turnBack_41 : decode cX3_turnBack 41 = .ok (.iload_n 1, 1) := by decide +kernel
theorem dX3_turnBack_42 : decode cX3_turnBack 42 = .ok (.invokevirtual 88, 3) := by decide +kernel
theorem dX3_turnBack_45 : decode cX3_turnBack 45 = .ok (.iconst 1, 1) := by decide +kernel
theorem dX3_turnBack_46 : decode cX3_turnBack 46 = .ok (.isub, 1) := by decide +kernel
theorem dX3_turnBack_47 : decode cX3_turnBack 47 = .ok (.goto 6, 3) := by decide +kernel
theorem dX3_turnBack_50 : decode cX3_turnBack 50 = .ok (.iload_n 2, 1) := by decide +kernel
theorem dX3_turnBack_51 : decode cX3_turnBack 51 = .ok (.iconst 1, 1) := by decide +kernel
theorem dX3_turnBack_52 : decode cX3_turnBack 52 = .ok (.isub, 1) := by decide +kernel
theorem dX3_turnBack_53 : decode cX3_turnBack 53 = .ok (.invokevirtual 73, 3) := by decide +kernel
theorem dX3_turnBack_56 : decode cX3_turnBack 56 = .ok (.iload_n 2, 1) := by decide +kernel
theorem dX3_turnBack_57 : decode cX3_turnBack 57 = .ok (.ifCond .ne 8, 3) := by decide +kernel
theorem dX3_turnBack_60 : decode cX3_turnBack 60 = .ok (.aload_n 0, 1) := by decide +kernel
theorem dX3_turnBack_61 : decode cX3_turnBack 61 = .ok (.iload_n 1, 1) := by decide +kernel
theorem dX3_turnBack_62 : decode cX3_turnBack 62 = .ok (.invokevirtual 81, 3) := by decide +kernel
theorem dX3_turnBack_65 : decode cX3_turnBack 65 = .ok (.return_, 1) := by decide +kernel
theorem dX3_lightUp_0 : decode cX3_lightUp 0 = .ok (.aload_n 0, 1) := by decide +kernel
theorem dX3_lightUp_1 : decode cX3_lightUp 1 = .ok (.getfield 23, 3) := by decide +kernel
theorem dX3_lightUp_4 : decode cX3_lightUp 4 = .ok (.iload_n 1, 1) := by decide +kernel
theorem dX3_lightUp_5 : decode cX3_lightUp 5 = .ok (.sipush 9999, 3) := by decide +kernel
theorem dX3_lightUp_8 : decode cX3_lightUp 8 = .ok (.aload_n 0, 1) := by decide +kernel
theorem dX3_lightUp_9 : decode cX3_lightUp 9 = .ok (.getfield 23, 3) := by decide +kernel
theorem dX3_lightUp_12 : decode cX3_lightUp 12 = .ok (.iload_n 1, 1) := by decide +kernel
theorem dX3_lightUp_13 : decode cX3_lightUp 13 = .ok (.iaload, 1) := by decide +kernel
theorem dX3_lightUp_14 : decode cX3_lightUp 14 = .ok (.iconst 1, 1) := by decide +kernel
theorem dX3_lightUp_15 : decode cX3_lightUp 15 = .ok (.iadd, 1) := by decide +kernel
theorem dX3_lightUp_16 : decode cX3_lightUp 16 = .ok (.invokestatic 91, 3) := by decide +kernel
theorem dX3_lightUp_19 : decode cX3_lightUp 19 = .ok (.iastore, 1) := by decide +kernel
theorem dX3_lightUp_20 : decode cX3_lightUp 20 = .ok (.return_, 1) := by decide +kernel
theorem dX3_lightDown_0 : decode cX3_lightDown 0 = .ok (.aload_n 0, 1) := by decide +kernel
theorem dX3_lightDown_1 : decode cX3_lightDown 1 = .ok (.getfield 23, 3) := by decide +kernel
theorem dX3_lightDown_4 : decode cX3_lightDown 4 = .ok (.iload_n 1, 1) := by decide +kernel
theorem dX3_lightDown_5 : decode cX3_lightDown 5 = .ok (.iconst 0, 1) := by decide +kernel
theorem dX3_lightDown_6 : decode cX3_lightDown 6 = .ok (.aload_n 0, 1) := by decide +kernel
theorem dX3_lightDown_7 : decode cX3_lightDown 7 = .ok (.getfield 23, 3) := by decide +kernel
theorem dX3_lightDown_10 : decode cX3_lightDown 10 = .ok (.iload_n 1, 1) := by decide +kernel
theorem dX3_lightDown_11 : decode cX3_lightDown 11 = .ok (.iaload, 1) := by decide +kernel
theorem dX3_lightDown_12 : decode cX3_lightDown 12 = .ok (.iconst 1, 1) := by decide +kernel
theorem dX3_lightDown_13 : decode cX3_lightDown 13 = .ok (.isub, 1) := by decide +kernel
theorem dX3_lightDown_14 : decode cX3_lightDown 14 = .ok (.invokestatic 97, 3) := by decide +kernel
theorem dX3_lightDown_17 : decode cX3_lightDown 17 = .ok (.iastore, 1) := by decide +kernel
theorem dX3_lightDown_18 : decode cX3_lightDown 18 = .ok (.return_, 1) := by decide +kernel
theorem dX3_mirrors_0 : decode cX3_mirrors 0 = .ok (.iconst 0, 1) := by decide +kernel
theorem dX3_mirrors_1 : decode cX3_mirrors 1 = .ok (.istore_n 1, 1) := by decide +kernel
theorem dX3_mirrors_2 : decode cX3_mirrors 2 = .ok (.iconst 0, 1) := by decide +kernel
theorem dX3_mirrors_3 : decode cX3_mirrors 3 = .ok (.istore_n 2, 1) := by decide +kernel
theorem dX3_mirrors_4 : decode cX3_mirrors 4 = .ok (.iload_n 2, 1) := by decide +kernel
theorem dX3_mirrors_5 : decode cX3_mirrors 5 = .ok (.aload_n 0, 1) := by decide +kernel
theorem dX3_mirrors_6 : decode cX3_mirrors 6 = .ok (.invokevirtual 46, 3) := by decide +kernel
theorem dX3_mirrors_9 : decode cX3_mirrors 9 = .ok (.if_icmp .ge 29, 3) := by decide +kernel
theorem dX3_mirrors_12 : decode cX3_mirrors 12 = .ok (.iload_n 1, 1) := by decide +kernel
theorem dX3_mirrors_13 : decode cX3_mirrors 13 = .ok (.aload_n 0, 1) := by decide +kernel
theorem dX3_mirrors_14 : decode cX3_mirrors 14 = .ok (.getfield 16, 3) := by decide +kernel
theorem dX3_mirrors_17 : decode cX3_mirrors 17 = .ok (.iload_n 2, 1) := by decide +kernel
theorem dX3_mirrors_18 : decode cX3_mirrors 18 = .ok (.iaload, 1) := by decide +kernel
theorem dX3_mirrors_19 : decode cX3_mirrors 19 = .ok (.invokestatic 100, 3) := by decide +kernel
theorem dX3_mirrors_22 : decode cX3_mirrors 22 = .ok (.ifCond .eq 7, 3) := by decide +kernel
theorem dX3_mirrors_25 : decode cX3_mirrors 25 = .ok (.iconst 1, 1) := by decide +kernel
theorem dX3_mirrors_26 : decode cX3_mirrors 26 = .ok (.goto 4, 3) := by decide +kernel
theorem dX3_mirrors_29 : decode cX3_mirrors 29 = .ok (.iconst 0, 1) := by decide +kernel
theorem dX3_mirrors_30 : decode cX3_mirrors 30 = .ok (.iadd, 1) := by decide +kernel
theorem dX3_mirrors_31 : decode cX3_mirrors 31 = .ok (.istore_n 1, 1) := by decide +kernel
theorem dX3_mirrors_32 : decode cX3_mirrors 32 = .ok (.iinc 2 1, 3) := by decide +kernel
theorem dX3_mirrors_35 : decode cX3_mirrors 35 = .ok (.goto (-31), 3) := by decide +kernel
theorem dX3_mirrors_38 : decode cX3_mirrors 38 = .ok (.iload_n 1, 1) := by decide +kernel
theorem dX3_mirrors_39 : decode cX3_mirrors 39 = .ok (.ireturn, 1) := by decide +kernel
theorem dX3_litTogether_0 : decode cX3_litTogether 0 = .ok (.iconst 0, 1) := by decide +kernel
theorem dX3_litTogether_1 : decode cX3_litTogether 1 = .ok (.istore_n 1, 1) := by decide +kernel
theorem dX3_litTogether_2 : decode cX3_litTogether 2 = .ok (.iconst 0, 1) := by decide +kernel
theorem dX3_litTogether_3 : decode cX3_litTogether 3 = .ok (.istore_n 2, 1) := by decide +kernel
theorem dX3_litTogether_4 : decode cX3_litTogether 4 = .ok (.iload_n 2, 1) := by decide +kernel
theorem dX3_litTogether_5 : decode cX3_litTogether 5 = .ok (.aload_n 0, 1) := by decide +kernel
theorem dX3_litTogether_6 : decode cX3_litTogether 6 = .ok (.invokevirtual 46, 3) := by decide +kernel
theorem dX3_litTogether_9 : decode cX3_litTogether 9 = .ok (.if_icmp .ge 18, 3) := by decide +kernel
theorem dX3_litTogether_12 : decode cX3_litTogether 12 = .ok (.iload_n 1, 1) := by decide +kernel
theorem dX3_litTogether_13 : decode cX3_litTogether 13 = .ok (.aload_n 0, 1) := by decide +kernel
theorem dX3_litTogether_14 : decode cX3_litTogether 14 = .ok (.getfield 23, 3) := by decide +kernel
theorem dX3_litTogether_17 : decode cX3_litTogether 17 = .ok (.iload_n 2, 1) := by decide +kernel
theorem dX3_litTogether_18 : decode cX3_litTogether 18 = .ok (.iaload, 1) := by decide +kernel
theorem dX3_litTogether_19 : decode cX3_litTogether 19 = .ok (.iadd, 1) := by decide +kernel
theorem dX3_litTogether_20 : decode cX3_litTogether 20 = .ok (.istore_n 1, 1) := by decide +kernel
theorem dX3_litTogether_21 : decode cX3_litTogether 21 = .ok (.iinc 2 1, 3) := by decide +kernel
theorem dX3_litTogether_24 : decode cX3_litTogether 24 = .ok (.goto (-20), 3) := by decide +kernel
theorem dX3_litTogether_27 : decode cX3_litTogether 27 = .ok (.iload_n 1, 1) := by decide +kernel
theorem dX3_litTogether_28 : decode cX3_litTogether 28 = .ok (.ireturn, 1) := by decide +kernel
theorem dX4_init_0 : decode cX4_init 0 = .ok (.aload_n 0, 1) := by decide +kernel
theorem dX4_init_1 : decode cX4_init 1 = .ok (.invokespecial 1, 3) := by decide +kernel
theorem dX4_init_4 : decode cX4_init 4 = .ok (.aload_n 0, 1) := by decide +kernel
theorem dX4_init_5 : decode cX4_init 5 = .ok (.new 7, 3) := by decide +kernel
theorem dX4_init_8 : decode cX4_init 8 = .ok (.dup, 1) := by decide +kernel
theorem dX4_init_9 : decode cX4_init 9 = .ok (.invokespecial 9, 3) := by decide +kernel
theorem dX4_init_12 : decode cX4_init 12 = .ok (.putfield 10, 3) := by decide +kernel
theorem dX4_init_15 : decode cX4_init 15 = .ok (.aload_n 0, 1) := by decide +kernel
theorem dX4_init_16 : decode cX4_init 16 = .ok (.new 16, 3) := by decide +kernel
theorem dX4_init_19 : decode cX4_init 19 = .ok (.dup, 1) := by decide +kernel
theorem dX4_init_20 : decode cX4_init 20 = .ok (.invokespecial 18, 3) := by decide +kernel
theorem dX4_init_23 : decode cX4_init 23 = .ok (.putfield 19, 3) := by decide +kernel
theorem dX4_init_26 : decode cX4_init 26 = .ok (.aload_n 0, 1) := by decide +kernel
theorem dX4_init_27 : decode cX4_init 27 = .ok (.iconst 0, 1) := by decide +kernel
theorem dX4_init_28 : decode cX4_init 28 = .ok (.putfield 23, 3) := by decide +kernel
theorem dX4_init_31 : decode cX4_init 31 = .ok (.aload_n 0, 1) := by decide +kernel
theorem dX4_init_32 : decode cX4_init 32 = .ok (.iconst 0, 1) := by decide +kernel
theorem dX4_init_33 : decode cX4_init 33 = .ok (.putfield 27, 3) := by decide +kernel
theorem dX4_init_36 : decode cX4_init 36 = .ok (.aload_n 0, 1) := by decide +kernel
theorem dX4_init_37 : decode cX4_init 37 = .ok (.iconst 0, 1) := by decide +kernel
theorem dX4_init_38 : decode cX4_init 38 = .ok (.putfield 30, 3) := by decide +kernel
theorem dX4_init_41 : decode cX4_init 41 = .ok (.aload_n 0, 1) := by decide +kernel
theorem dX4_init_42 : decode cX4_init 42 = .ok (.iconst (-1), 1) := by decide +kernel
theorem dX4_init_43 : decode cX4_init 43 = .ok (.putfield 33, 3) := by decide +kernel
theorem dX4_init_46 : decode cX4_init 46 = .ok (.aload_n 0, 1) := by decide +kernel
theorem dX4_init_47 : decode cX4_init 47 = .ok (.iconst 0, 1) := by decide +kernel
theorem dX4_init_48 : decode cX4_init 48 = .ok (.putfield 36, 3) := by decide +kernel
theorem dX4_init_51 : decode cX4_init 51 = .ok (.return_, 1) := by decide +kernel
theorem dX4_lead_0 : decode cX4_lead 0 = .ok (.aload_n 0, 1) := by decide +kernel
theorem dX4_lead_1 : decode cX4_lead 1 = .ok (.iload_n 2, 1) := by decide +kernel
theorem dX4_lead_2 : decode cX4_lead 2 = .ok (.putfield 23, 3) := by decide +kernel
theorem dX4_lead_5 : decode cX4_lead 5 = .ok (.aload_n 0, 1) := by decide +kernel
theorem dX4_lead_6 : decode cX4_lead 6 = .ok (.iload_n 3, 1) := by decide +kernel
theorem dX4_lead_7 : decode cX4_lead 7 = .ok (.putfield 27, 3) := by decide +kernel
theorem dX4_lead_10 : decode cX4_lead 10 = .ok (.aload_n 0, 1) := by decide +kernel
theorem dX4_lead_11 : decode cX4_lead 11 = .ok (.iconst 0, 1) := by decide +kernel
theorem dX4_lead_12 : decode cX4_lead 12 = .ok (.putfield 30, 3) := by decide +kernel
theorem dX4_lead_15 : decode cX4_lead 15 = .ok (.aload_n 0, 1) := by decide +kernel
theorem dX4_lead_16 : decode cX4_lead 16 = .ok (.iconst (-1), 1) := by decide +kernel
theorem dX4_lead_17 : decode cX4_lead 17 = .ok (.putfield 33, 3) := by decide +kernel
theorem dX4_lead_20 : decode cX4_lead 20 = .ok (.aload_n 0, 1) := by decide +kernel
theorem dX4_lead_21 : decode cX4_lead 21 = .ok (.iconst 0, 1) := by decide +kernel
theorem dX4_lead_22 : decode cX4_lead 22 = .ok (.putfield 36, 3) := by decide +kernel
theorem dX4_lead_25 : decode cX4_lead 25 = .ok (.aload_n 0, 1) := by decide +kernel
theorem dX4_lead_26 : decode cX4_lead 26 = .ok (.getfield 10, 3) := by decide +kernel
theorem dX4_lead_29 : decode cX4_lead 29 = .ok (.aload_n 1, 1) := by decide +kernel
theorem dX4_lead_30 : decode cX4_lead 30 = .ok (.getfield 39, 3) := by decide +kernel
theorem dX4_lead_33 : decode cX4_lead 33 = .ok (.invokevirtual 44, 3) := by decide +kernel
theorem dX4_lead_36 : decode cX4_lead 36 = .ok (.aload_n 0, 1) := by decide +kernel
theorem dX4_lead_37 : decode cX4_lead 37 = .ok (.aload_n 1, 1) := by decide +kernel
theorem dX4_lead_38 : decode cX4_lead 38 = .ok (.getfield 39, 3) := by decide +kernel
theorem dX4_lead_41 : decode cX4_lead 41 = .ok (.iconst 0, 1) := by decide +kernel
theorem dX4_lead_42 : decode cX4_lead 42 = .ok (.invokevirtual 48, 3) := by decide +kernel
theorem dX4_lead_45 : decode cX4_lead 45 = .ok (.ifCond .ne 19, 3) := by decide +kernel
theorem dX4_lead_48 : decode cX4_lead 48 = .ok (.aload_n 0, 1) := by decide +kernel
theorem dX4_lead_49 : decode cX4_lead 49 = .ok (.aload_n 1, 1) := by decide +kernel
theorem dX4_lead_50 : decode cX4_lead 50 = .ok (.invokevirtual 52, 3) := by decide +kernel
theorem dX4_lead_53 : decode cX4_lead 53 = .ok (.ifCond .ne 11, 3) := by decide +kernel
theorem dX4_lead_56 : decode cX4_lead 56 = .ok (.aload_n 0, 1) := by decide +kernel
theorem dX4_lead_57 : decode cX4_lead 57 = .ok (.aload_n 1, 1) := by decide +kernel
theorem dX4_lead_58 : decode cX4_lead 58 = .ok (.invokevirtual 56, 3) := by decide +kernel
theorem dX4_lead_61 : decode cX4_lead 61 = .ok (.ifCond .eq 7, 3) := by decide +kernel
theorem dX4_lead_64 : decode cX4_lead 64 = .ok (.iconst 1, 1) := by decide +kernel
theorem dX4_lead_65 : decode cX4_lead 65 = .ok (.goto 4, 3) := by decide +kernel
theorem dX4_lead_68 : decode cX4_lead 68 = .ok (.iconst 0, 1) := by decide +kernel
theorem dX4_lead_69 : decode cX4_lead 69 = .ok (.ireturn, 1) := by decide +kernel
theorem dX4_isLit_0 : decode cX4_isLit 0 = .ok (.aload_n 0, 1) := by decide +kernel
theorem dX4_isLit_1 : decode cX4_isLit 1 = .ok (.getfield 10, 3) := by decide +kernel
theorem dX4_isLit_4 : decode cX4_isLit 4 = .ok (.aload_n 1, 1) := by decide +kernel
theorem dX4_isLit_5 : decode cX4_isLit 5 = .ok (.getfield 59, 3) := by decide +kernel
theorem dX4_isLit_8 : decode cX4_isLit 8 = .ok (.iload_n 2, 1) := by decide +kernel
theorem dX4_isLit_9 : decode cX4_isLit 9 = .ok (.ixor, 1) := by decide +kernel
theorem dX4_isLit_10 : decode cX4_isLit 10 = .ok (.aload_n 1, 1) := by decide +kernel
theorem dX4_isLit_11 : decode cX4_isLit 11 = .ok (.getfield 62, 3) := by decide +kernel
theorem dX4_isLit_14 : decode cX4_isLit 14 = .ok (.invokevirtual 66, 3) := by decide +kernel
theorem dX4_isLit_17 : decode cX4_isLit 17 = .ok (.aload_n 0, 1) := by decide +kernel
theorem dX4_isLit_18 : decode cX4_isLit 18 = .ok (.getfield 19, 3) := by decide +kernel
theorem dX4_isLit_21 : decode cX4_isLit 21 = .ok (.aload_n 0, 1) := by decide +kernel
theorem dX4_isLit_22 : decode cX4_isLit 22 = .ok (.getfield 10, 3) := by decide +kernel
theorem dX4_isLit_25 : decode cX4_isLit 25 = .ok (.aload_n 0, 1) := by decide +kernel
theorem dX4_isLit_26 : decode cX4_isLit 26 = .ok (.getfield 27, 3) := by decide +kernel
theorem dX4_isLit_29 : decode cX4_isLit 29 = .ok (.invokevirtual 70, 3) := by decide +kernel
theorem dX4_isLit_32 : decode cX4_isLit 32 = .ok (.pop, 1) := by decide +kernel
theorem dX4_isLit_33 : decode cX4_isLit 33 = .ok (.aload_n 0, 1) := by decide +kernel
theorem dX4_isLit_34 : decode cX4_isLit 34 = .ok (.getfield 19, 3) := by decide +kernel
theorem dX4_isLit_37 : decode cX4_isLit 37 = .ok (.getfield 74, 3) := by decide +kernel
theorem dX4_isLit_40 : decode cX4_isLit 40 = .ok (.aload_n 0, 1) := by decide +kernel
theorem dX4_isLit_41 : decode cX4_isLit 41 = .ok (.getfield 23, 3) := by decide +kernel
theorem dX4_isLit_44 : decode cX4_isLit 44 = .ok (.iushr, 1) := by decide +kernel
theorem dX4_isLit_45 : decode cX4_isLit 45 = .ok (.iconst 1, 1) := by decide +kernel
theorem dX4_isLit_46 : decode cX4_isLit 46 = .ok (.iand, 1) := by decide +kernel
theorem dX4_isLit_47 : decode cX4_isLit 47 = .ok (.iconst 1, 1) := by decide +kernel
theorem dX4_isLit_48 : decode cX4_isLit 48 = .ok (.if_icmp .ne 7, 3) := by decide +kernel
theorem dX4_isLit_51 : decode cX4_isLit 51 = .ok (.iconst 1, 1) := by decide +kernel
theorem dX4_isLit_52 : decode cX4_isLit 52 = .ok (.goto 4, 3) := by decide +kernel
theorem dX4_isLit_55 : decode cX4_isLit 55 = .ok (.iconst 0, 1) := by decide +kernel
theorem dX4_isLit_56 : decode cX4_isLit 56 = .ok (.ireturn, 1) := by decide +kernel
theorem dX4_leadByOne_0 : decode cX4_leadByOne 0 = .ok (.aload_n 1, 1) := by decide +kernel
theorem dX4_leadByOne_1 : decode cX4_leadByOne 1 = .ok (.getfield 39, 3) := by decide +kernel
theorem dX4_leadByOne_4 : decode cX4_leadByOne 4 = .ok (.astore_n 2, 1) := by decide +kernel
theorem dX4_leadByOne_5 : decode cX4_leadByOne 5 = .ok (.iconst 0, 1) := by decide +kernel
theorem dX4_leadByOne_6 : decode cX4_leadByOne 6 = .ok (.istore_n 3, 1) := by decide +kernel
theorem dX4_leadByOne_7 : decode cX4_leadByOne 7 = .ok (.iload_n 3, 1) := by decide +kernel
theorem dX4_leadByOne_8 : decode cX4_leadByOne 8 = .ok (.aload_n 2, 1) := by decide +kernel
theorem dX4_leadByOne_9 : decode cX4_leadByOne 9 = .ok (.invokevirtual 77, 3) := by decide +kernel
theorem dX4_leadByOne_12 : decode cX4_leadByOne 12 = .ok (.if_icmp .ge 44, 3) := by decide +kernel
theorem dX4_leadByOne_15 : decode cX4_leadByOne 15 = .ok (.aload_n 2, 1) := by decide +kernel
theorem dX4_leadByOne_16 : decode cX4_leadByOne 16 = .ok (.iload_n 3, 1) := by decide +kernel
theorem dX4_leadByOne_17 : decode cX4_leadByOne 17 = .ok (.invokevirtual 80, 3) := by decide +kernel
theorem dX4_leadByOne_20 : decode cX4_leadByOne 20 = .ok (.ifCond .eq 30, 3) := by decide +kernel
theorem dX4_leadByOne_23 : decode cX4_leadByOne 23 = .ok (.aload_n 0, 1) := by decide +kernel
theorem dX4_leadByOne_24 : decode cX4_leadByOne 24 = .ok (.aload_n 2, 1) := by decide +kernel
theorem dX4_leadByOne_25 : decode cX4_leadByOne 25 = .ok (.iconst 1, 1) := by decide +kernel
theorem dX4_leadByOne_26 : decode cX4_leadByOne 26 = .ok (.iload_n 3, 1) := by decide +kernel
theorem dX4_leadByOne_27 : decode cX4_leadByOne 27 = .ok (.ishl, 1) := by decide +kernel
theorem dX4_leadByOne_28 : decode cX4_leadByOne 28 = .ok (.invokevirtual 48, 3) := by decide +kernel
theorem dX4_leadByOne_31 : decode cX4_leadByOne 31 = .ok (.ifCond .eq 19, 3) := by decide +kernel
theorem dX4_leadByOne_34 : decode cX4_leadByOne 34 = .ok (.aload_n 0, 1) := by decide +kernel
theorem dX4_leadByOne_35 : decode cX4_leadByOne 35 = .ok (.iconst 1, 1) := by decide +kernel
theorem dX4_leadByOne_36 : decode cX4_leadByOne 36 = .ok (.bipush 100, 2) := by decide +kernel
theorem dX4_leadByOne_38 : decode cX4_leadByOne 38 = .ok (.iload_n 3, 1) := by decide +kernel
theorem dX4_leadByOne_39 : decode cX4_leadByOne 39 = .ok (.imul, 1) := by decide +kernel
theorem dX4_leadByOne_40 : decode cX4_leadByOne 40 = .ok (.iload_n 3, 1) := by decide +kernel
theorem dX4_leadByOne_41 : decode cX4_leadByOne 41 = .ok (.iadd, 1) := by decide +kernel
theorem dX4_leadByOne_42 : decode cX4_leadByOne 42 = .ok (.aload_n 1, 1) := by decide +kernel
theorem dX4_leadByOne_43 : decode cX4_leadByOne 43 = .ok (.iload_n 3, 1) := by decide +kernel
theorem dX4_leadByOne_44 : decode cX4_leadByOne 44 = .ok (.invokevirtual 84, 3) := by decide +kernel
theorem dX4_leadByOne_47 : decode cX4_leadByOne 47 = .ok (.invokevirtual 88, 3) := by decide +kernel
theorem dX4_leadByOne_50 : decode cX4_leadByOne 50 = .ok (.iinc 3 1, 3) := by decide +kernel
theorem dX4_leadByOne_53 : decode cX4_leadByOne 53 = .ok (.goto (-46), 3) := by decide +kernel
theorem dX4_leadByOne_56 : decode cX4_leadByOne 56 = .ok (.aload_n 0, 1) := by decide +kernel
theorem dX4_leadByOne_57 : decode cX4_leadByOne 57 = .ok (.getfield 30, 3) := by decide +kernel
theorem dX4_leadByOne_60 : decode cX4_leadByOne 60 = .ok (.ifCond .le 7, 3) := by decide +kernel
theorem dX4_leadByOne_63 : decode cX4_leadByOne 63 = .ok (.iconst 1, 1) := by decide +kernel
theorem dX4_leadByOne_64 : decode cX4_leadByOne 64 = .ok (.goto 4, 3) := by decide +kernel
theorem dX4_leadByOne_67 : decode cX4_leadByOne 67 = .ok (.iconst 0, 1) := by decide +kernel
theorem dX4_leadByOne_68 : decode cX4_leadByOne 68 = .ok (.ireturn, 1) := by decide +kernel
theorem dX4_leadByTwo_0 : decode cX4_leadByTwo 0 = .ok (.aload_n 1, 1) := by decide +kernel
theorem dX4_leadByTwo_1 : decode cX4_leadByTwo 1 = .ok (.getfield 39, 3) := by decide +kernel
theorem dX4_leadByTwo_4 : decode cX4_leadByTwo 4 = .ok (.astore_n 2, 1) := by decide +kernel
theorem dX4_leadByTwo_5 : decode cX4_leadByTwo 5 = .ok (.iconst 0, 1) := by decide +kernel
theorem dX4_leadByTwo_6 : decode cX4_leadByTwo 6 = .ok (.istore_n 3, 1) := by decide +kernel
theorem dX4_leadByTwo_7 : decode cX4_leadByTwo 7 = .ok (.iload_n 3, 1) := by decide +kernel
theorem dX4_leadByTwo_8 : decode cX4_leadByTwo 8 = .ok (.aload_n 2, 1) := by decide +kernel
theorem dX4_leadByTwo_9 : decode cX4_leadByTwo 9 = .ok (.invokevirtual 77, 3) := by decide +kernel
theorem dX4_leadByTwo_12 : decode cX4_leadByTwo 12 = .ok (.if_icmp .ge 86, 3) := by decide +kernel
theorem dX4_leadByTwo_15 : decode cX4_leadByTwo 15 = .ok (.iload_n 3, 1) := by decide +kernel
theorem dX4_leadByTwo_16 : decode cX4_leadByTwo 16 = .ok (.iconst 1, 1) := by decide +kernel
theorem dX4_leadByTwo_17 : decode cX4_leadByTwo 17 = .ok (.iadd, 1) := by decide +kernel
theorem dX4_leadByTwo_18 : decode cX4_leadByTwo 18 = .ok (.istore 4, 2) := by decide +kernel
theorem dX4_leadByTwo_20 : decode cX4_leadByTwo 20 = .ok (.iload 4, 2) := by decide +kernel
theorem dX4_leadByTwo_22 : decode cX4_leadByTwo 22 = .ok (.aload_n 2, 1) := by decide +kernel
theorem dX4_leadByTwo_23 : decode cX4_leadByTwo 23 = .ok (.invokevirtual 77, 3) := by decide +kernel
theorem dX4_leadByTwo_26 : decode cX4_leadByTwo 26 = .ok (.if_icmp .ge 66, 3) := by decide +kernel
theorem dX4_leadByTwo_29 : decode cX4_leadByTwo 29 = .ok (.aload_n 2, 1) := by decide +kernel
theorem dX4_leadByTwo_30 : decode cX4_leadByTwo 30 = .ok (.iload_n 3, 1) := by decide +kernel
theorem dX4_leadByTwo_31 : decode cX4_leadByTwo 31 = .ok (.invokevirtual 80, 3) := by decide +kernel
theorem dX4_leadByTwo_34 : decode cX4_leadByTwo 34 = .ok (.ifCond .eq 58, 3) := by decide +kernel
theorem dX4_leadByTwo_37 : decode cX4_leadByTwo 37 = .ok (.aload_n 2, 1) := by decide +kernel
theorem dX4_leadByTwo_38 : decode cX4_leadByTwo 38 = .ok (.iload 4, 2) := by decide +kernel
theorem dX4_leadByTwo_40 : decode cX4_leadByTwo 40 = .ok (.invokevirtual 80, 3) := by decide +kernel
theorem dX4_leadByTwo_43 : decode cX4_leadByTwo 43 = .ok (.ifCond .eq 43, 3) := by decide +kernel
theorem dX4_leadByTwo_46 : decode cX4_leadByTwo 46 = .ok (.aload_n 0, 1) := by decide +kernel
theorem dX4_leadByTwo_47 : decode cX4_leadByTwo 47 = .ok (.aload_n 2, 1) := by decide +kernel
theorem dX4_leadByTwo_48 : decode cX4_leadByTwo 48 = .ok (.iconst 1, 1) := by decide +kernel
theorem dX4_leadByTwo_49 : decode cX4_leadByTwo 49 = .ok (.iload_n 3, 1) := by decide +kernel
theorem dX4_leadByTwo_50 : decode cX4_leadByTwo 50 = .ok (.ishl, 1) := by decide +kernel
theorem dX4_leadByTwo_51 : decode cX4_leadByTwo 51 = .ok (.iconst 1, 1) := by decide +kernel
theorem dX4_leadByTwo_52 : decode cX4_leadByTwo 52 = .ok (.iload 4, 2) := by decide +kernel
theorem dX4_leadByTwo_54 : decode cX4_leadByTwo 54 = .ok (.ishl, 1) := by decide +kernel
theorem dX4_leadByTwo_55 : decode cX4_leadByTwo 55 = .ok (.ior, 1) := by decide +kernel
theorem dX4_leadByTwo_56 : decode cX4_leadByTwo 56 = .ok (.invokevirtual 48, 3) := by decide +kernel
theorem dX4_leadByTwo_59 : decode cX4_leadByTwo 59 = .ok (.ifCond .eq 27, 3) := by decide +kernel
theorem dX4_leadByTwo_62 : decode cX4_leadByTwo 62 = .ok (.aload_n 0, 1) := by decide +kernel
theorem dX4_leadByTwo_63 : decode cX4_leadByTwo 63 = .ok (.iconst 2, 1) := by decide +kernel
theorem dX4_leadByTwo_64 : decode cX4_leadByTwo 64 = .ok (.bipush 100, 2) := by decide +kernel
theorem dX4_leadByTwo_66 : decode cX4_leadByTwo 66 = .ok (.iload_n 3, 1) := by decide +kernel
theorem dX4_leadByTwo_67 : decode cX4_leadByTwo 67 = .ok (.imul, 1) := by decide +kernel
theorem dX4_leadByTwo_68 : decode cX4_leadByTwo 68 = .ok (.iload 4, 2) := by decide +kernel
theorem dX4_leadByTwo_70 : decode cX4_leadByTwo 70 = .ok (.iadd, 1) := by decide +kernel
theorem dX4_leadByTwo_71 : decode cX4_leadByTwo 71 = .ok (.aload_n 1, 1) := by decide +kernel
theorem dX4_leadByTwo_72 : decode cX4_leadByTwo 72 = .ok (.iload_n 3, 1) := by decide +kernel
theorem dX4_leadByTwo_73 : decode cX4_leadByTwo 73 = .ok (.invokevirtual 84, 3) := by decide +kernel
theorem dX4_leadByTwo_76 : decode cX4_leadByTwo 76 = .ok (.aload_n 1, 1) := by decide +kernel
theorem dX4_leadByTwo_77 : decode cX4_leadByTwo 77 = .ok (.iload 4, 2) := by decide +kernel
theorem dX4_leadByTwo_79 : decode cX4_leadByTwo 79 = .ok (.invokevirtual 84, 3) := by decide +kernel
theorem dX4_leadByTwo_82 : decode cX4_leadByTwo 82 = .ok (.iadd, 1) := by decide +kernel
theorem dX4_leadByTwo_83 : decode cX4_leadByTwo 83 = .ok (.invokevirtual 88, 3) := by decide +kernel
theorem dX4_leadByTwo_86 : decode cX4_leadByTwo 86 = .ok (.iinc 4 1, 3) := by decide +kernel
theorem dX4_leadByTwo_89 : decode cX4_leadByTwo 89 = .ok (.goto (-69), 3) := by decide +kernel
theorem dX4_leadByTwo_92 : decode cX4_leadByTwo 92 = .ok (.iinc 3 1, 3) := by decide +kernel
theorem dX4_leadByTwo_95 : decode cX4_leadByTwo 95 = .ok (.goto (-88), 3) := by decide +kernel
theorem dX4_leadByTwo_98 : decode cX4_leadByTwo 98 = .ok (.aload_n 0, 1) := by decide +kernel
theorem dX4_leadByTwo_99 : decode cX4_leadByTwo 99 = .ok (.getfield 30, 3) := by decide +kernel
theorem dX4_leadByTwo_102 : decode cX4_leadByTwo 102 = .ok (.ifCond .le 7, 3) := by decide +kernel
theorem dX4_leadByTwo_105 : decode cX4_leadByTwo 105 = .ok (.iconst 1, 1) := by decide +kernel
theorem dX4_leadByTwo_106 : decode cX4_leadByTwo 106 = .ok (.goto 4, 3) := by decide +kernel
theorem dX4_leadByTwo_109 : decode cX4_leadByTwo 109 = .ok (.iconst 0, 1) := by decide +kernel
theorem dX4_leadByTwo_110 : decode cX4_leadByTwo 110 = .ok (.ireturn, 1) := by decide +kernel
theorem dX4_offer_0 : decode cX4_offer 0 = .ok (.aload_n 0, 1) := by decide +kernel
theorem dX4_offer_1 : decode cX4_offer 1 = .ok (.getfield 30, 3) := by decide +kernel
theorem dX4_offer_4 : decode cX4_offer 4 = .ok (.ifCond .eq 11, 3) := by decide +kernel
theorem dX4_offer_7 : decode cX4_offer 7 = .ok (.iload_n 3, 1) := by decide +kernel
theorem dX4_offer_8 : decode cX4_offer 8 = .ok (.aload_n 0, 1) := by decide +kernel
theorem dX4_offer_9 : decode cX4_offer 9 = .ok (.getfield 36, 3) := by decide +kernel
theorem dX4_offer_12 : decode cX4_offer 12 = .ok (.if_icmp .ge 18, 3) := by decide +kernel
theorem dX4_offer_15 : decode cX4_offer 15 = .ok (.aload_n 0, 1) := by decide +kernel
theorem dX4_offer_16 : decode cX4_offer 16 = .ok (.iload_n 1, 1) := by decide +kernel
theorem dX4_offer_17 : decode cX4_offer 17 = .ok (.putfield 30, 3) := by decide +kernel
theorem dX4_offer_20 : decode cX4_offer 20 = .ok (.aload_n 0, 1) := by decide +kernel
theorem dX4_offer_21 : decode cX4_offer 21 = .ok (.iload_n 2, 1) := by decide +kernel
theorem dX4_offer_22 : decode cX4_offer 22 = .ok (.putfield 33, 3) := by decide +kernel
theorem dX4_offer_25 : decode cX4_offer 25 = .ok (.aload_n 0, 1) := by decide +kernel
theorem dX4_offer_26 : decode cX4_offer 26 = .ok (.iload_n 3, 1) := by decide +kernel
theorem dX4_offer_27 : decode cX4_offer 27 = .ok (.putfield 36, 3) := by decide +kernel
theorem dX4_offer_30 : decode cX4_offer 30 = .ok (.return_, 1) := by decide +kernel
theorem dX5_init_0 : decode cX5_init 0 = .ok (.aload_n 0, 1) := by decide +kernel
theorem dX5_init_1 : decode cX5_init 1 = .ok (.invokespecial 1, 3) := by decide +kernel
theorem dX5_init_4 : decode cX5_init 4 = .ok (.aload_n 0, 1) := by decide +kernel
theorem dX5_init_5 : decode cX5_init 5 = .ok (.bipush 50, 2) := by decide +kernel
theorem dX5_init_7 : decode cX5_init 7 = .ok (.newarray .int, 2) := by decide +kernel
theorem dX5_init_9 : decode cX5_init 9 = .ok (.putfield 9, 3) := by decide +kernel
theorem dX5_init_12 : decode cX5_init 12 = .ok (.aload_n 0, 1) := by decide +kernel
theorem dX5_init_13 : decode cX5_init 13 = .ok (.iconst 0, 1) := by decide +kernel
theorem dX5_init_14 : decode cX5_init 14 = .ok (.putfield 15, 3) := by decide +kernel
theorem dX5_init_17 : decode cX5_init 17 = .ok (.aload_n 0, 1) := by decide +kernel
theorem dX5_init_18 : decode cX5_init 18 = .ok (.bipush 50, 2) := by decide +kernel
theorem dX5_init_20 : decode cX5_init 20 = .ok (.newarray .int, 2) := by decide +kernel
theorem dX5_init_22 : decode cX5_init 22 = .ok (.putfield 19, 3) := by decide +kernel
theorem dX5_init_25 : decode cX5_init 25 = .ok (.aload_n 0, 1) := by decide +kernel
theorem dX5_init_26 : decode cX5_init 26 = .ok (.iload_n 1, 1) := by decide +kernel
theorem dX5_init_27 : decode cX5_init 27 = .ok (.putfield 22, 3) := by decide +kernel
theorem dX5_init_30 : decode cX5_init 30 = .ok (.return_, 1) := by decide +kernel
theorem dX5_learn_0 : decode cX5_learn 0 = .ok (.aload_n 0, 1) := by decide +kernel
theorem dX5_learn_1 : decode cX5_learn 1 = .ok (.iload_n 2, 1) := by decide +kernel
theorem dX5_learn_2 : decode cX5_learn 2 = .ok (.iconst 0, 1) := by decide +kernel
theorem dX5_learn_3 : decode cX5_learn 3 = .ok (.aload_n 0, 1) := by decide +kernel
theorem dX5_learn_4 : decode cX5_learn 4 = .ok (.getfield 9, 3) := by decide +kernel
theorem dX5_learn_7 : decode cX5_learn 7 = .ok (.arraylength, 1) := by decide +kernel
theorem dX5_learn_8 : decode cX5_learn 8 = .ok (.aload_n 1, 1) := by decide +kernel
theorem dX5_learn_9 : decode cX5_learn 9 = .ok (.arraylength, 1) := by decide +kernel
theorem dX5_learn_10 : decode cX5_learn 10 = .ok (.invokestatic 25, 3) := by decide +kernel
theorem dX5_learn_13 : decode cX5_learn 13 = .ok (.invokestatic 31, 3) := by decide +kernel
theorem dX5_learn_16 : decode cX5_learn 16 = .ok (.putfield 15, 3) := by decide +kernel
theorem dX5_learn_19 : decode cX5_learn 19 = .ok (.aload_n 1, 1) := by decide +kernel
theorem dX5_learn_20 : decode cX5_learn 20 = .ok (.iconst 0, 1) := by decide +kernel
theorem dX5_learn_21 : decode cX5_learn 21 = .ok (.aload_n 0, 1) := by decide +kernel
theorem dX5_learn_22 : decode cX5_learn 22 = .ok (.getfield 9, 3) := by decide +kernel
theorem dX5_learn_25 : decode cX5_learn 25 = .ok (.iconst 0, 1) := by decide +kernel
theorem dX5_learn_26 : decode cX5_learn 26 = .ok (.aload_n 0, 1) := by decide +kernel
theorem dX5_learn_27 : decode cX5_learn 27 = .ok (.getfield 15, 3) := by decide +kernel
theorem dX5_learn_30 : decode cX5_learn 30 = .ok (.invokestatic 37, 3) := by decide +kernel
theorem dX5_learn_33 : decode cX5_learn 33 = .ok (.return_, 1) := by decide +kernel
theorem dX5_copyFrom_0 : decode cX5_copyFrom 0 = .ok (.aload_n 0, 1) := by decide +kernel
theorem dX5_copyFrom_1 : decode cX5_copyFrom 1 = .ok (.aload_n 1, 1) := by decide +kernel
theorem dX5_copyFrom_2 : decode cX5_copyFrom 2 = .ok (.getfield 9, 3) := by decide +kernel
theorem dX5_copyFrom_5 : decode cX5_copyFrom 5 = .ok (.aload_n 1, 1) := by decide +kernel
theorem dX5_copyFrom_6 : decode cX5_copyFrom 6 = .ok (.getfield 15, 3) := by decide +kernel
theorem dX5_copyFrom_9 : decode cX5_copyFrom 9 = .ok (.invokevirtual 43, 3) := by decide +kernel
theorem dX5_copyFrom_12 : decode cX5_copyFrom 12 = .ok (.return_, 1) := by decide +kernel
theorem dX5_gives_0 : decode cX5_gives 0 = .ok (.aload_n 0, 1) := by decide +kernel
theorem dX5_gives_1 : decode cX5_gives 1 = .ok (.getfield 22, 3) := by decide +kernel
theorem dX5_gives_4 : decode cX5_gives 4 = .ok (.ifCond .ne 7, 3) := by decide +kernel
theorem dX5_gives_7 : decode cX5_gives 7 = .ok (.iconst 0, 1) := by decide +kernel
theorem dX5_gives_8 : decode cX5_gives 8 = .ok (.goto 5, 3) := by decide +kernel
theorem dX5_gives_11 : decode cX5_gives 11 = .ok (.bipush (-99), 2) := by decide +kernel
theorem dX5_gives_13 : decode cX5_gives 13 = .ok (.istore 4, 2) := by decide +kernel
theorem dX5_gives_15 : decode cX5_gives 15 = .ok (.aload_n 0, 1) := by decide +kernel
theorem dX5_gives_16 : decode cX5_gives 16 = .ok (.getfield 15, 3) := by decide +kernel
theorem dX5_gives_19 : decode cX5_gives 19 = .ok (.ifCond .ne 11, 3) := by decide +kernel
theorem dX5_gives_22 : decode cX5_gives 22 = .ok (.aload_n 0, 1) := by decide +kernel
theorem dX5_gives_23 : decode cX5_gives 23 = .ok (.iload_n 3, 1) := by decide +kernel
theorem dX5_gives_24 : decode cX5_gives 24 = .ok (.invokevirtual 47, 3) := by decide +kernel
theorem dX5_gives_27 : decode cX5_gives 27 = .ok (.goto 10, 3) := by decide +kernel
theorem dX5_gives_30 : decode cX5_gives 30 = .ok (.aload_n 0, 1) := by decide +kernel
theorem dX5_gives_31 : decode cX5_gives 31 = .ok (.iload_n 1, 1) := by decide +kernel
theorem dX5_gives_32 : decode cX5_gives 32 = .ok (.iload_n 2, 1) := by decide +kernel
theorem dX5_gives_33 : decode cX5_gives 33 = .ok (.iload_n 3, 1) := by decide +kernel
theorem dX5_gives_34 : decode cX5_gives 34 = .ok (.invokevirtual 51, 3) := by decide +kernel
theorem dX5_gives_37 : decode cX5_gives 37 = .ok (.iload 4, 2) := by decide +kernel
theorem dX5_gives_39 : decode cX5_gives 39 = .ok (.bipush 99, 2) := by decide +kernel
theorem dX5_gives_41 : decode cX5_gives 41 = .ok (.invokestatic 31, 3) := by decide +kernel
theorem dX5_gives_44 : decode cX5_gives 44 = .ok (.ireturn, 1) := by decide +kernel
theorem dX5_withoutText_0 : decode cX5_withoutText 0 = .ok (.aload_n 0, 1) := by decide +kernel
theorem dX5_withoutText_1 : decode cX5_withoutText 1 = .ok (.getfield 22, 3) := by decide +kernel
theorem dX5_withoutText_4 : decode cX5_withoutText 4 = .ok (.ifCond .ne 9, 3) := by decide +kernel
theorem dX5_withoutText_7 : decode cX5_withoutText 7 = .ok (.iconst 5, 1) := by decide +kernel
theorem dX5_withoutText_8 : decode cX5_withoutText 8 = .ok (.iload_n 1, 1) := by decide +kernel
theorem dX5_withoutText_9 : decode cX5_withoutText 9 = .ok (.iadd, 1) := by decide +kernel
theorem dX5_withoutText_10 : decode cX5_withoutText 10 = .ok (.goto 4, 3) := by decide +kernel
theorem dX5_withoutText_13 : decode cX5_withoutText 13 = .ok (.iconst 0, 1) := by decide +kernel
theorem dX5_withoutText_14 : decode cX5_withoutText 14 = .ok (.ireturn, 1) := by decide +kernel
theorem dX5_worked_0 : decode cX5_worked 0 = .ok (.iconst (-1), 1) := by decide +kernel
theorem dX5_worked_1 : decode cX5_worked 1 = .ok (.istore 4, 2) := by decide +kernel
theorem dX5_worked_3 : decode cX5_worked 3 = .ok (.iconst 0, 1) := by decide +kernel
theorem dX5_worked_4 : decode cX5_worked 4 = .ok (.istore 5, 2) := by decide +kernel
theorem dX5_worked_6 : decode cX5_worked 6 = .ok (.iload 5, 2) := by decide +kernel
theorem dX5_worked_8 : decode cX5_worked 8 = .ok (.aload_n 0, 1) := by decide +kernel
theorem dX5_worked_9 : decode cX5_worked 9 = .ok (.getfield 15, 3) := by decide +kernel
theorem dX5_worked_12 : decode cX5_worked 12 = .ok (.if_icmp .ge 166, 3) := by decide +kernel
theorem dX5_worked_15 : decode cX5_worked 15 = .ok (.aload_n 0, 1) := by decide +kernel
theorem dX5_worked_16 : decode cX5_worked 16 = .ok (.getfield 9, 3) := by decide +kernel
theorem dX5_worked_19 : decode cX5_worked 19 = .ok (.iload 5, 2) := by decide +kernel
theorem dX5_worked_21 : decode cX5_worked 21 = .ok (.iaload, 1) := by decide +kernel
theorem dX5_worked_22 : decode cX5_worked 22 = .ok (.istore 6, 2) := by decide +kernel
theorem dX5_worked_24 : decode cX5_worked 24 = .ok (.iload 6, 2) := by decide +kernel
theorem dX5_worked_26 : decode cX5_worked 26 = .ok (.sipush 10000, 3) := by decide +kernel
theorem dX5_worked_29 : decode cX5_worked 29 = .ok (.if_icmp .ge 60, 3) := by decide +kernel
theorem dX5_worked_32 : decode cX5_worked 32 = .ok (.iinc 4 1, 3) := by decide +kernel
theorem dX5_worked_35 : decode cX5_worked 35 = .ok (.iload 4, 2) := by decide +kernel
theorem dX5_worked_37 : decode cX5_worked 37 = .ok (.aload_n 0, 1) := by decide +kernel
theorem dX5_worked_38 : decode cX5_worked 38 = .ok (.getfield 19, 3) := by decide +kernel
theorem dX5_worked_41 : decode cX5_worked 41 = .ok (.arraylength, 1) := by decide +kernel
theorem dX5_worked_42 : decode cX5_worked 42 = .ok (.if_icmp .lt 5, 3) := by decide +kernel
theorem dX5_worked_45 : decode cX5_worked 45 = .ok (.iconst 0, 1) := by decide +kernel
theorem dX5_worked_46 : decode cX5_worked 46 = .ok (.ireturn, 1) := by decide +kernel
theorem dX5_worked_47 : decode cX5_worked 47 = .ok (.aload_n 0, 1) := by decide +kernel
theorem dX5_worked_48 : decode cX5_worked 48 = .ok (.getfield 19, 3) := by decide +kernel
theorem dX5_worked_51 : decode cX5_worked 51 = .ok (.iload 4, 2) := by decide +kernel
theorem dX5_worked_53 : decode cX5_worked 53 = .ok (.iload 6, 2) := by decide +kernel
theorem dX5_worked_55 : decode cX5_worked 55 = .ok (.ifCond .lt 8, 3) := by decide +kernel
theorem dX5_worked_58 : decode cX5_worked 58 = .ok (.iload 6, 2) := by decide +kernel
theorem dX5_worked_60 : decode cX5_worked 60 = .ok (.goto 25, 3) := by decide +kernel
theorem dX5_worked_63 : decode cX5_worked 63 = .ok (.iload 6, 2) := by decide +kernel
theorem dX5_worked_65 : decode cX5_worked 65 = .ok (.iconst (-1), 1) := by decide +kernel
theorem dX5_worked_66 : decode cX5_worked 66 = .ok (.if_icmp .ne 7, 3) := by decide +kernel
theorem dX5_worked_69 : decode cX5_worked 69 = .ok (.iload_n 1, 1) := by decide +kernel
theorem dX5_worked_70 : decode cX5_worked 70 = .ok (.goto 15, 3) := by decide +kernel
theorem dX5_worked_73 : decode cX5_worked 73 = .ok (.iload 6, 2) := by decide +kernel
theorem dX5_worked_75 : decode cX5_worked 75 = .ok (.bipush (-2), 2) := by decide +kernel
theorem dX5_worked_77 : decode cX5_worked 77 = .ok (.if_icmp .ne 7, 3) := by decide +kernel
theorem dX5_worked_80 : decode cX5_worked 80 = .ok (.iload_n 2, 1) := by decide +kernel
theorem dX5_worked_81 : decode cX5_worked 81 = .ok (.goto 4, 3) := by decide +kernel
theorem dX5_worked_84 : decode cX5_worked 84 = .ok (.iload_n 3, 1) := by decide +kernel
theorem dX5_worked_85 : decode cX5_worked 85 = .ok (.iastore, 1) := by decide +kernel
theorem dX5_worked_86 : decode cX5_worked 86 = .ok (.goto 86, 3) := by decide +kernel
theorem dX5_worked_89 : decode cX5_worked 89 = .ok (.iload 6, 2) := by decide +kernel
theorem dX5_worked_91 : decode cX5_worked 91 = .ok (.sipush 10033, 3) := by decide +kernel
theorem dX5_worked_94 : decode cX5_worked 94 = .ok (.if_icmp .ne 35, 3) := by decide +kernel
theorem dX5_worked_97 : decode cX5_worked 97 = .ok (.iload 4, 2) := by decide +kernel
theorem dX5_worked_99 : decode cX5_worked 99 = .ok (.ifCond .ge 5, 3) := by decide +kernel
theorem dX5_worked_102 : decode cX5_worked 102 = .ok (.iconst 0, 1) := by decide +kernel
theorem dX5_worked_103 : decode cX5_worked 103 = .ok (.ireturn, 1) := by decide +kernel
theorem dX5_worked_104 : decode cX5_worked 104 = .ok (.aload_n 0, 1) := by decide +kernel
theorem dX5_worked_105 : decode cX5_worked 105 = .ok (.getfield 19, 3) := by decide +kernel
theorem dX5_worked_108 : decode cX5_worked 108 = .ok (.iload 4, 2) := by decide +kernel
theorem dX5_worked_110 : decode cX5_worked 110 = .ok (.aload_n 0, 1) := by decide +kernel
theorem dX5_worked_111 : decode cX5_worked 111 = .ok (.getfield 19, 3) := by decide +kernel
theorem dX5_worked_114 : decode cX5_worked 114 = .ok (.iload 4, 2) := by decide +kernel
theorem dX5_worked_116 : decode cX5_worked 116 = .ok (.iaload, 1) := by decide +kernel
theorem dX5_worked_117 : decode cX5_worked 117 = .ok (.ifCond .ne 7, 3) := by decide +kernel
theorem dX5_worked_120 : decode cX5_worked 120 = .ok (.iconst 1, 1) := by decide +kernel
theorem dX5_worked_121 : decode cX5_worked 121 = .ok (.goto 4, 3) := by decide +kernel
theorem dX5_worked_124 : decode cX5_worked 124 = .ok (.iconst 0, 1) := by decide +kernel
theorem dX5_worked_125 : decode cX5_worked 125 = .ok (.iastore, 1) := by decide +kernel
theorem dX5_worked_126 : decode cX5_worked 126 = .ok (.goto 46, 3) := by decide +kernel
theorem dX5_worked_129 : decode cX5_worked 129 = .ok (.iload 4, 2) := by decide +kernel
theorem dX5_worked_131 : decode cX5_worked 131 = .ok (.iconst 1, 1) := by decide +kernel
theorem dX5_worked_132 : decode cX5_worked 132 = .ok (.if_icmp .ge 5, 3) := by decide +kernel
theorem dX5_worked_135 : decode cX5_worked 135 = .ok (.iconst 0, 1) := by decide +kernel
theorem dX5_worked_136 : decode cX5_worked 136 = .ok (.ireturn, 1) := by decide +kernel
theorem dX5_worked_137 : decode cX5_worked 137 = .ok (.iinc 4 (-1), 3) := by decide +kernel
theorem dX5_worked_140 : decode cX5_worked 140 = .ok (.aload_n 0, 1) := by decide +kernel
theorem dX5_worked_141 : decode cX5_worked 141 = .ok (.getfield 19, 3) := by decide +kernel
theorem dX5_worked_144 : decode cX5_worked 144 = .ok (.iload 4, 2) := by decide +kernel
theorem dX5_worked_146 : decode cX5_worked 146 = .ok (.iload 6, 2) := by decide +kernel
theorem dX5_worked_148 : decode cX5_worked 148 = .ok (.sipush 10000, 3) := by decide +kernel
theorem dX5_worked_151 : decode cX5_worked 151 = .ok (.isub, 1) := by decide +kernel
theorem dX5_worked_152 : decode cX5_worked 152 = .ok (.aload_n 0, 1) := by decide +kernel
theorem dX5_worked_153 : decode cX5_worked 153 = .ok (.getfield 19, 3) := by decide +kernel
theorem dX5_worked_156 : decode cX5_worked 156 = .ok (.iload 4, 2) := by decide +kernel
theorem dX5_worked_158 : decode cX5_worked 158 = .ok (.iaload, 1) := by decide +kernel
theorem dX5_worked_159 : decode cX5_worked 159 = .ok (.aload_n 0, 1) := by decide +kernel
theorem dX5_worked_160 : decode cX5_worked 160 = .ok (.getfield 19, 3) := by decide +kernel
theorem dX5_worked_163 : decode cX5_worked 163 = .ok (.iload 4, 2) := by decide +kernel
theorem dX5_worked_165 : decode cX5_worked 165 = .ok (.iconst 1, 1) := by decide +kernel
theorem dX5_worked_166 : decode cX5_worked 166 = .ok (.iadd, 1) := by decide +kernel
theorem dX5_worked_167 : decode cX5_worked 167 = .ok (.iaload, 1) := by decide +kernel
theorem dX5_worked_168 : decode cX5_worked 168 = .ok (.invokestatic 56, 3) := by decide +kernel
theorem dX5_worked_171 : decode cX5_worked 171 = .ok (.iastore, 1) := by decide +kernel
theorem dX5_worked_172 : decode cX5_worked 172 = .ok (.iinc 5 1, 3) := by decide +kernel
theorem dX5_worked_175 : decode cX5_worked 175 = .ok (.goto (-169), 3) := by decide +kernel
theorem dX5_worked_178 : decode cX5_worked 178 = .ok (.iload 4, 2) := by decide +kernel
theorem dX5_worked_180 : decode cX5_worked 180 = .ok (.ifCond .ge 7, 3) := by decide +kernel
theorem dX5_worked_183 : decode cX5_worked 183 = .ok (.iconst 0, 1) := by decide +kernel
theorem dX5_worked_184 : decode cX5_worked 184 = .ok (.goto 10, 3) := by decide +kernel
theorem dX5_worked_187 : decode cX5_worked 187 = .ok (.aload_n 0, 1) := by decide +kernel
theorem dX5_worked_188 : decode cX5_worked 188 = .ok (.getfield 19, 3) := by decide +kernel
theorem dX5_worked_191 : decode cX5_worked 191 = .ok (.iload 4, 2) := by decide +kernel
theorem dX5_worked_193 : decode cX5_worked 193 = .ok (.iaload, 1) := by decide +kernel
theorem dX5_worked_194 : decode cX5_worked 194 = .ok (.ireturn, 1) := by decide +kernel
theorem dX5_joined_0 : decode cX5_joined 0 = .ok (.iload_n 0, 1) := by decide +kernel
theorem dX5_joined_1 : decode cX5_joined 1 = .ok (.lookupswitch 168 #[(38, 97), (42, 152), (43, 144), (45, 148), (47, 156), (60, 111), (61, 122), (62, 133), (124, 83)], 83) := by decide +kernel
theorem dX5_joined_84 : decode cX5_joined 84 = .ok (.iload_n 1, 1) := by decide +kernel
theorem dX5_joined_85 : decode cX5_joined 85 = .ok (.ifCond .ne 7, 3) := by decide +kernel
theorem dX5_joined_88 : decode cX5_joined 88 = .ok (.iload_n 2, 1) := by decide +kernel
theorem dX5_joined_89 : decode cX5_joined 89 = .ok (.ifCond .eq 7, 3) := by decide +kernel
theorem dX5_joined_92 : decode cX5_joined 92 = .ok (.iconst 1, 1) := by decide +kernel
theorem dX5_joined_93 : decode cX5_joined 93 = .ok (.goto 4, 3) := by decide +kernel
theorem dX5_joined_96 : decode cX5_joined 96 = .ok (.iconst 0, 1) := by decide +kernel
theorem dX5_joined_97 : decode cX5_joined 97 = .ok (.ireturn, 1) := by decide +kernel
theorem dX5_joined_98 : decode cX5_joined 98 = .ok (.iload_n 1, 1) := by decide +kernel
theorem dX5_joined_99 : decode cX5_joined 99 = .ok (.ifCond .eq 11, 3) := by decide +kernel
theorem dX5_joined_102 : decode cX5_joined 102 = .ok (.iload_n 2, 1) := by decide +kernel
theorem dX5_joined_103 : decode cX5_joined 103 = .ok (.ifCond .eq 7, 3) := by decide +kernel
theorem dX5_joined_106 : decode cX5_joined 106 = .ok (.iconst 1, 1) := by decide +kernel
theorem dX5_joined_107 : decode cX5_joined 107 = .ok (.goto 4, 3) := by decide +kernel
theorem dX5_joined_110 : decode cX5_joined 110 = .ok (.iconst 0, 1) := by decide +kernel
theorem dX5_joined_111 : decode cX5_joined 111 = .ok (.ireturn, 1) := by decide +kernel
theorem dX5_joined_112 : decode cX5_joined 112 = .ok (.iload_n 1, 1) := by decide +kernel
theorem dX5_joined_113 : decode cX5_joined 113 = .ok (.iload_n 2, 1) := by decide +kernel
theorem dX5_joined_114 : decode cX5_joined 114 = .ok (.if_icmp .ge 7, 3) := by decide +kernel
theorem dX5_joined_117 : decode cX5_joined 117 = .ok (.iconst 1, 1) := by decide +kernel
theorem dX5_joined_118 : decode cX5_joined 118 = .ok (.goto 4, 3) := by decide +kernel
theorem dX5_joined_121 : decode cX5_joined 121 = .ok (.iconst 0, 1) := by decide +kernel
theorem dX5_joined_122 : decode cX5_joined 122 = .ok (.ireturn, 1) := by decide +kernel
theorem dX5_joined_123 : decode cX5_joined 123 = .ok (.iload_n 1, 1) := by decide +kernel
theorem dX5_joined_124 : decode cX5_joined 124 = .ok (.iload_n 2, 1) := by decide +kernel
theorem dX5_joined_125 : decode cX5_joined 125 = .ok (.if_icmp .ne 7, 3) := by decide +kernel
theorem dX5_joined_128 : decode cX5_joined 128 = .ok (.iconst 1, 1) := by decide +kernel
theorem dX5_joined_129 : decode cX5_joined 129 = .ok (.goto 4, 3) := by decide +kernel
theorem dX5_joined_132 : decode cX5_joined 132 = .ok (.iconst 0, 1) := by decide +kernel
theorem dX5_joined_133 : decode cX5_joined 133 = .ok (.ireturn, 1) := by decide +kernel
theorem dX5_joined_134 : decode cX5_joined 134 = .ok (.iload_n 1, 1) := by decide +kernel
theorem dX5_joined_135 : decode cX5_joined 135 = .ok (.iload_n 2, 1) := by decide +kernel
theorem dX5_joined_136 : decode cX5_joined 136 = .ok (.if_icmp .le 7, 3) := by decide +kernel
theorem dX5_joined_139 : decode cX5_joined 139 = .ok (.iconst 1, 1) := by decide +kernel
theorem dX5_joined_140 : decode cX5_joined 140 = .ok (.goto 4, 3) := by decide +kernel
theorem dX5_joined_143 : decode cX5_joined 143 = .ok (.iconst 0, 1) := by decide +kernel
theorem dX5_joined_144 : decode cX5_joined 144 = .ok (.ireturn, 1) := by decide +kernel
theorem dX5_joined_145 : decode cX5_joined 145 = .ok (.iload_n 1, 1) := by decide +kernel
theorem dX5_joined_146 : decode cX5_joined 146 = .ok (.iload_n 2, 1) := by decide +kernel
theorem dX5_joined_147 : decode cX5_joined 147 = .ok (.iadd, 1) := by decide +kernel
theorem dX5_joined_148 : decode cX5_joined 148 = .ok (.ireturn, 1) := by decide +kernel
theorem dX5_joined_149 : decode cX5_joined 149 = .ok (.iload_n 1, 1) := by decide +kernel
theorem dX5_joined_150 : decode cX5_joined 150 = .ok (.iload_n 2, 1) := by decide +kernel
theorem dX5_joined_151 : decode cX5_joined 151 = .ok (.isub, 1) := by decide +kernel
theorem dX5_joined_152 : decode cX5_joined 152 = .ok (.ireturn, 1) := by decide +kernel
theorem dX5_joined_153 : decode cX5_joined 153 = .ok (.iload_n 1, 1) := by decide +kernel
theorem dX5_joined_154 : decode cX5_joined 154 = .ok (.iload_n 2, 1) := by decide +kernel
theorem dX5_joined_155 : decode cX5_joined 155 = .ok (.imul, 1) := by decide +kernel
theorem dX5_joined_156 : decode cX5_joined 156 = .ok (.ireturn, 1) := by decide +kernel
theorem dX5_joined_157 : decode cX5_joined 157 = .ok (.iload_n 2, 1) := by decide +kernel
theorem dX5_joined_158 : decode cX5_joined 158 = .ok (.ifCond .ne 7, 3) := by decide +kernel
theorem dX5_joined_161 : decode cX5_joined 161 = .ok (.iconst 0, 1) := by decide +kernel
theorem dX5_joined_162 : decode cX5_joined 162 = .ok (.goto 6, 3) := by decide +kernel
theorem dX5_joined_165 : decode cX5_joined 165 = .ok (.iload_n 1, 1) := by decide +kernel
theorem dX5_joined_166 : decode cX5_joined 166 = .ok (.iload_n 2, 1) := by decide +kernel
theorem dX5_joined_167 : decode cX5_joined 167 = .ok (.idiv, 1) := by decide +kernel
theorem dX5_joined_168 : decode cX5_joined 168 = .ok (.ireturn, 1) := by decide +kernel
theorem dX5_joined_169 : decode cX5_joined 169 = .ok (.iload_n 2, 1) := by decide +kernel
theorem dX5_joined_170 : decode cX5_joined 170 = .ok (.ifCond .ne 7, 3) := by decide +kernel
theorem dX5_joined_173 : decode cX5_joined 173 = .ok (.iconst 0, 1) := by decide +kernel
theorem dX5_joined_174 : decode cX5_joined 174 = .ok (.goto 6, 3) := by decide +kernel
theorem dX5_joined_177 : decode cX5_joined 177 = .ok (.iload_n 1, 1) := by decide +kernel
theorem dX5_joined_178 : decode cX5_joined 178 = .ok (.iload_n 2, 1) := by decide +kernel
theorem dX5_joined_179 : decode cX5_joined 179 = .ok (.irem, 1) := by decide +kernel
theorem dX5_joined_180 : decode cX5_joined 180 = .ok (.ireturn, 1) := by decide +kernel
theorem dX6_init_0 : decode cX6_init 0 = .ok (.aload_n 0, 1) := by decide +kernel
theorem dX6_init_1 : decode cX6_init 1 = .ok (.invokespecial 1, 3) := by decide +kernel
theorem dX6_init_4 : decode cX6_init 4 = .ok (.aload_n 0, 1) := by decide +kernel
theorem dX6_init_5 : decode cX6_init 5 = .ok (.bipush 50, 2) := by decide +kernel
theorem dX6_init_7 : decode cX6_init 7 = .ok (.newarray .int, 2) := by decide +kernel
theorem dX6_init_9 : decode cX6_init 9 = .ok (.putfield 9, 3) := by decide +kernel
theorem dX6_init_12 : decode cX6_init 12 = .ok (.aload_n 0, 1) := by decide +kernel
theorem dX6_init_13 : decode cX6_init 13 = .ok (.iconst 0, 1) := by decide +kernel
theorem dX6_init_14 : decode cX6_init 14 = .ok (.putfield 15, 3) := by decide +kernel
theorem dX6_init_17 : decode cX6_init 17 = .ok (.aload_n 0, 1) := by decide +kernel
theorem dX6_init_18 : decode cX6_init 18 = .ok (.bipush 50, 2) := by decide +kernel
theorem dX6_init_20 : decode cX6_init 20 = .ok (.newarray .int, 2) := by decide +kernel
theorem dX6_init_22 : decode cX6_init 22 = .ok (.putfield 19, 3) := by decide +kernel
theorem dX6_init_25 : decode cX6_init 25 = .ok (.aload_n 0, 1) := by decide +kernel
theorem dX6_init_26 : decode cX6_init 26 = .ok (.iconst 0, 1) := by decide +kernel
theorem dX6_init_27 : decode cX6_init 27 = .ok (.putfield 22, 3) := by decide +kernel
theorem dX6_init_30 : decode cX6_init 30 = .ok (.aload_n 0, 1) := by decide +kernel
theorem dX6_init_31 : decode cX6_init 31 = .ok (.iconst 0, 1) := by decide +kernel
theorem dX6_init_32 : decode cX6_init 32 = .ok (.putfield 25, 3) := by decide +kernel
theorem dX6_init_35 : decode cX6_init 35 = .ok (.aload_n 0, 1) := by decide +kernel
theorem dX6_init_36 : decode cX6_init 36 = .ok (.iconst 0, 1) := by decide +kernel
theorem dX6_init_37 : decode cX6_init 37 = .ok (.putfield 28, 3) := by decide +kernel
theorem dX6_init_40 : decode cX6_init 40 = .ok (.aload_n 0, 1) := by decide +kernel
theorem dX6_init_41 : decode cX6_init 41 = .ok (.iconst 0, 1) := by decide +kernel
theorem dX6_init_42 : decode cX6_init 42 = .ok (.putfield 31, 3) := by decide +kernel
theorem dX6_init_45 : decode cX6_init 45 = .ok (.return_, 1) := by decide +kernel
theorem dX6_faultIn_0 : decode cX6_faultIn 0 = .ok (.aload_n 0, 1) := by decide +kernel
theorem dX6_faultIn_1 : decode cX6_faultIn 1 = .ok (.iload_n 2, 1) := by decide +kernel
theorem dX6_faultIn_2 : decode cX6_faultIn 2 = .ok (.iconst 0, 1) := by decide +kernel
theorem dX6_faultIn_3 : decode cX6_faultIn 3 = .ok (.aload_n 1, 1) := by decide +kernel
theorem dX6_faultIn_4 : decode cX6_faultIn 4 = .ok (.arraylength, 1) := by decide +kernel
theorem dX6_faultIn_5 : decode cX6_faultIn 5 = .ok (.aload_n 0, 1) := by decide +kernel
theorem dX6_faultIn_6 : decode cX6_faultIn 6 = .ok (.getfield 19, 3) := by decide +kernel
theorem dX6_faultIn_9 : decode cX6_faultIn 9 = .ok (.arraylength, 1) := by decide +kernel
theorem dX6_faultIn_10 : decode cX6_faultIn 10 = .ok (.invokestatic 35, 3) := by decide +kernel
theorem dX6_faultIn_13 : decode cX6_faultIn 13 = .ok (.invokestatic 41, 3) := by decide +kernel
theorem dX6_faultIn_16 : decode cX6_faultIn 16 = .ok (.putfield 22, 3) := by decide +kernel
theorem dX6_faultIn_19 : decode cX6_faultIn 19 = .ok (.aload_n 1, 1) := by decide +kernel
theorem dX6_faultIn_20 : decode cX6_faultIn 20 = .ok (.iconst 0, 1) := by decide +kernel
theorem dX6_faultIn_21 : decode cX6_faultIn 21 = .ok (.aload_n 0, 1) := by decide +kernel
theorem dX6_faultIn_22 : decode cX6_faultIn 22 = .ok (.getfield 19, 3) := by decide +kernel
theorem dX6_faultIn_25 : decode cX6_faultIn 25 = .ok (.iconst 0, 1) := by decide +kernel
theorem dX6_faultIn_26 : decode cX6_faultIn 26 = .ok (.aload_n 0, 1) := by decide +kernel
theorem dX6_faultIn_27 : decode cX6_faultIn 27 = .ok (.getfield 22, 3) := by decide +kernel
theorem dX6_faultIn_30 : decode cX6_faultIn 30 = .ok (.invokestatic 47, 3) := by decide +kernel
theorem dX6_faultIn_33 : decode cX6_faultIn 33 = .ok (.aload_n 0, 1) := by decide +kernel
theorem dX6_faultIn_34 : decode cX6_faultIn 34 = .ok (.iload_n 3, 1) := by decide +kernel
theorem dX6_faultIn_35 : decode cX6_faultIn 35 = .ok (.putfield 28, 3) := by decide +kernel
theorem dX6_faultIn_38 : decode cX6_faultIn 38 = .ok (.aload_n 0, 1) := by decide +kernel
theorem dX6_faultIn_39 : decode cX6_faultIn 39 = .ok (.iconst 0, 1) := by decide +kernel
theorem dX6_faultIn_40 : decode cX6_faultIn 40 = .ok (.putfield 25, 3) := by decide +kernel
theorem dX6_faultIn_43 : decode cX6_faultIn 43 = .ok (.aload_n 0, 1) := by decide +kernel
theorem dX6_faultIn_44 : decode cX6_faultIn 44 = .ok (.iconst 0, 1) := by decide +kernel
theorem dX6_faultIn_45 : decode cX6_faultIn 45 = .ok (.putfield 15, 3) := by decide +kernel
theorem dX6_faultIn_48 : decode cX6_faultIn 48 = .ok (.aload_n 0, 1) := by decide +kernel
theorem dX6_faultIn_49 : decode cX6_faultIn 49 = .ok (.iconst 0, 1) := by decide +kernel
theorem dX6_faultIn_50 : decode cX6_faultIn 50 = .ok (.putfield 31, 3) := by decide +kernel
theorem dX6_faultIn_53 : decode cX6_faultIn 53 = .ok (.aload_n 0, 1) := by decide +kernel
theorem dX6_faultIn_54 : decode cX6_faultIn 54 = .ok (.iconst 0, 1) := by decide +kernel
theorem dX6_faultIn_55 : decode cX6_faultIn 55 = .ok (.iconst 0, 1) := by decide +kernel
theorem dX6_faultIn_56 : decode cX6_faultIn 56 = .ok (.invokevirtual 53, 3) := by decide +kernel
theorem dX6_faultIn_59 : decode cX6_faultIn 59 = .ok (.aload_n 0, 1) := by decide +kernel
theorem dX6_faultIn_60 : decode cX6_faultIn 60 = .ok (.getfield 31, 3) := by decide +kernel
theorem dX6_faultIn_63 : decode cX6_faultIn 63 = .ok (.ifCond .ne 14, 3) := by decide +kernel
theorem dX6_faultIn_66 : decode cX6_faultIn 66 = .ok (.aload_n 0, 1) := by decide +kernel
theorem dX6_faultIn_67 : decode cX6_faultIn 67 = .ok (.getfield 25, 3) := by decide +kernel
theorem dX6_faultIn_70 : decode cX6_faultIn 70 = .ok (.aload_n 0, 1) := by decide +kernel
theorem dX6_faultIn_71 : decode cX6_faultIn 71 = .ok (.getfield 22, 3) := by decide +kernel
theorem dX6_faultIn_74 : decode cX6_faultIn 74 = .ok (.if_icmp .ge 10, 3) := by decide +kernel
theorem dX6_faultIn_77 : decode cX6_faultIn 77 = .ok (.aload_n 0, 1) := by decide +kernel
theorem dX6_faultIn_78 : decode cX6_faultIn 78 = .ok (.getfield 25, 3) := by decide +kernel
theorem dX6_faultIn_81 : decode cX6_faultIn 81 = .ok (.goto 4, 3) := by decide +kernel
theorem dX6_faultIn_84 : decode cX6_faultIn 84 = .ok (.iconst (-1), 1) := by decide +kernel
theorem dX6_faultIn_85 : decode cX6_faultIn 85 = .ok (.ireturn, 1) := by decide +kernel
theorem dX6_readJoined_0 : decode cX6_readJoined 0 = .ok (.aload_n 0, 1) := by decide +kernel
theorem dX6_readJoined_1 : decode cX6_readJoined 1 = .ok (.iload_n 1, 1) := by decide +kernel
theorem dX6_readJoined_2 : decode cX6_readJoined 2 = .ok (.iconst 1, 1) := by decide +kernel
theorem dX6_readJoined_3 : decode cX6_readJoined 3 = .ok (.iadd, 1) := by decide +kernel
theorem dX6_readJoined_4 : decode cX6_readJoined 4 = .ok (.iload_n 2, 1) := by decide +kernel
theorem dX6_readJoined_5 : decode cX6_readJoined 5 = .ok (.invokevirtual 57, 3) := by decide +kernel
theorem dX6_readJoined_8 : decode cX6_readJoined 8 = .ok (.iconst 0, 1) := by decide +kernel
theorem dX6_readJoined_9 : decode cX6_readJoined 9 = .ok (.istore_n 3, 1) := by decide +kernel
theorem dX6_readJoined_10 : decode cX6_readJoined 10 = .ok (.iload_n 3, 1) := by decide +kernel
theorem dX6_readJoined_11 : decode cX6_readJoined 11 = .ok (.aload_n 0, 1) := by decide +kernel
theorem dX6_readJoined_12 : decode cX6_readJoined 12 = .ok (.getfield 22, 3) := by decide +kernel
theorem dX6_readJoined_15 : decode cX6_readJoined 15 = .ok (.if_icmp .ge 67, 3) := by decide +kernel
theorem dX6_readJoined_18 : decode cX6_readJoined 18 = .ok (.aload_n 0, 1) := by decide +kernel
theorem dX6_readJoined_19 : decode cX6_readJoined 19 = .ok (.getfield 31, 3) := by decide +kernel
theorem dX6_readJoined_22 : decode cX6_readJoined 22 = .ok (.ifCond .ne 60, 3) := by decide +kernel
theorem dX6_readJoined_25 : decode cX6_readJoined 25 = .ok (.iload_n 1, 1) := by decide +kernel
theorem dX6_readJoined_26 : decode cX6_readJoined 26 = .ok (.aload_n 0, 1) := by decide +kernel
theorem dX6_readJoined_27 : decode cX6_readJoined 27 = .ok (.invokevirtual 60, 3) := by decide +kernel
theorem dX6_readJoined_30 : decode cX6_readJoined 30 = .ok (.invokestatic 64, 3) := by decide +kernel
theorem dX6_readJoined_33 : decode cX6_readJoined 33 = .ok (.ifCond .eq 49, 3) := by decide +kernel
theorem dX6_readJoined_36 : decode cX6_readJoined 36 = .ok (.aload_n 0, 1) := by decide +kernel
theorem dX6_readJoined_37 : decode cX6_readJoined 37 = .ok (.invokevirtual 60, 3) := by decide +kernel
theorem dX6_readJoined_40 : decode cX6_readJoined 40 = .ok (.istore 4, 2) := by decide +kernel
theorem dX6_readJoined_42 : decode cX6_readJoined 42 = .ok (.aload_n 0, 1) := by decide +kernel
theorem dX6_readJoined_43 : decode cX6_readJoined 43 = .ok (.dup, 1) := by decide +kernel
theorem dX6_readJoined_44 : decode cX6_readJoined 44 = .ok (.getfield 25, 3) := by decide +kernel
theorem dX6_readJoined_47 : decode cX6_readJoined 47 = .ok (.iconst 1, 1) := by decide +kernel
theorem dX6_readJoined_48 : decode cX6_readJoined 48 = .ok (.iadd, 1) := by decide +kernel
theorem dX6_readJoined_49 : decode cX6_readJoined 49 = .ok (.putfield 25, 3) := by decide +kernel
theorem dX6_readJoined_52 : decode cX6_readJoined 52 = .ok (.aload_n 0, 1) := by decide +kernel
theorem dX6_readJoined_53 : decode cX6_readJoined 53 = .ok (.iload_n 1, 1) := by decide +kernel
theorem dX6_readJoined_54 : decode cX6_readJoined 54 = .ok (.iconst 1, 1) := by decide +kernel
theorem dX6_readJoined_55 : decode cX6_readJoined 55 = .ok (.iadd, 1) := by decide +kernel
theorem dX6_readJoined_56 : decode cX6_readJoined 56 = .ok (.iload_n 2, 1) := by decide +kernel
theorem dX6_readJoined_57 : decode cX6_readJoined 57 = .ok (.invokevirtual 57, 3) := by decide +kernel
theorem dX6_readJoined_60 : decode cX6_readJoined 60 = .ok (.aload_n 0, 1) := by decide +kernel
theorem dX6_readJoined_61 : decode cX6_readJoined 61 = .ok (.sipush 10000, 3) := by decide +kernel
theorem dX6_readJoined_64 : decode cX6_readJoined 64 = .ok (.iload 4, 2) := by decide +kernel
theorem dX6_readJoined_66 : decode cX6_readJoined 66 = .ok (.iadd, 1) := by decide +kernel
theorem dX6_readJoined_67 : decode cX6_readJoined 67 = .ok (.invokevirtual 68, 3) := by decide +kernel
theorem dX6_readJoined_70 : decode cX6_readJoined 70 = .ok (.iload_n 1, 1) := by decide +kernel
theorem dX6_readJoined_71 : decode cX6_readJoined 71 = .ok (.iconst 2, 1) := by decide +kernel
theorem dX6_readJoined_72 : decode cX6_readJoined 72 = .ok (.if_icmp .ne 4, 3) := by decide +kernel
theorem dX6_readJoined_75 : decode cX6_readJoined 75 = .ok (.return_, 1) := by decide +kernel
theorem dX6_readJoined_76 : decode cX6_readJoined 76 = .ok (.iinc 3 1, 3) := by decide +kernel
theorem dX6_readJoined_79 : decode cX6_readJoined 79 = .ok (.goto (-69), 3) := by decide +kernel
theorem dX6_readJoined_82 : decode cX6_readJoined 82 = .ok (.return_, 1) := by decide +kernel
theorem dX6_readPart_0 : decode cX6_readPart 0 = .ok (.iload_n 1, 1) := by decide +kernel
theorem dX6_readPart_1 : decode cX6_readPart 1 = .ok (.iconst 4, 1) := by decide +kernel
theorem dX6_readPart_2 : decode cX6_readPart 2 = .ok (.if_icmp .le 11, 3) := by decide +kernel
theorem dX6_readPart_5 : decode cX6_readPart 5 = .ok (.aload_n 0, 1) := by decide +kernel
theorem dX6_readPart_6 : decode cX6_readPart 6 = .ok (.iload_n 2, 1) := by decide +kernel
theorem dX6_readPart_7 : decode cX6_readPart 7 = .ok (.invokevirtual 72, 3) := by decide +kernel
theorem dX6_readPart_10 : decode cX6_readPart 10 = .ok (.goto 9, 3) := by decide +kernel
theorem dX6_readPart_13 : decode cX6_readPart 13 = .ok (.aload_n 0, 1) := by decide +kernel
theorem dX6_readPart_14 : decode cX6_readPart 14 = .ok (.iload_n 1, 1) := by decide +kernel
theorem dX6_readPart_15 : decode cX6_readPart 15 = .ok (.iload_n 2, 1) := by decide +kernel
theorem dX6_readPart_16 : decode cX6_readPart 16 = .ok (.invokevirtual 53, 3) := by decide +kernel
theorem dX6_readPart_19 : decode cX6_readPart 19 = .ok (.return_, 1) := by decide +kernel
theorem dX6_readLeaf_0 : decode cX6_readLeaf 0 = .ok (.aload_n 0, 1) := by decide +kernel
theorem dX6_readLeaf_1 : decode cX6_readLeaf 1 = .ok (.invokevirtual 60, 3) := by decide +kernel
theorem dX6_readLeaf_4 : decode cX6_readLeaf 4 = .ok (.istore_n 2, 1) := by decide +kernel
theorem dX6_readLeaf_5 : decode cX6_readLeaf 5 = .ok (.iload_n 2, 1) := by decide +kernel
theorem dX6_readLeaf_6 : decode cX6_readLeaf 6 = .ok (.invokestatic 75, 3) := by decide +kernel
theorem dX6_readLeaf_9 : decode cX6_readLeaf 9 = .ok (.ifCond .eq 10, 3) := by decide +kernel
theorem dX6_readLeaf_12 : decode cX6_readLeaf 12 = .ok (.aload_n 0, 1) := by decide +kernel
theorem dX6_readLeaf_13 : decode cX6_readLeaf 13 = .ok (.invokevirtual 79, 3) := by decide +kernel
theorem dX6_readLeaf_16 : decode cX6_readLeaf 16 = .ok (.goto 29, 3) := by decide +kernel
theorem dX6_readLeaf_19 : decode cX6_readLeaf 19 = .ok (.iload_n 2, 1) := by decide +kernel
theorem dX6_readLeaf_20 : decode cX6_readLeaf 20 = .ok (.bipush 33, 2) := by decide +kernel
theorem dX6_readLeaf_22 : decode cX6_readLeaf 22 = .ok (.if_icmp .eq 9, 3) := by decide +kernel
theorem dX6_readLeaf_25 : decode cX6_readLeaf 25 = .ok (.iload_n 2, 1) := by decide +kernel
theorem dX6_readLeaf_26 : decode cX6_readLeaf 26 = .ok (.bipush 40, 2) := by decide +kernel
theorem dX6_readLeaf_28 : decode cX6_readLeaf 28 = .ok (.if_icmp .ne 12, 3) := by decide +kernel
theorem dX6_readLeaf_31 : decode cX6_readLeaf 31 = .ok (.aload_n 0, 1) := by decide +kernel
theorem dX6_readLeaf_32 : decode cX6_readLeaf 32 = .ok (.iload_n 2, 1) := by decide +kernel
theorem dX6_readLeaf_33 : decode cX6_readLeaf 33 = .ok (.iload_n 1, 1) := by decide +kernel
theorem dX6_readLeaf_34 : decode cX6_readLeaf 34 = .ok (.invokevirtual 82, 3) := by decide +kernel
theorem dX6_readLeaf_37 : decode cX6_readLeaf 37 = .ok (.goto 8, 3) := by decide +kernel
theorem dX6_readLeaf_40 : decode cX6_readLeaf 40 = .ok (.aload_n 0, 1) := by decide +kernel
theorem dX6_readLeaf_41 : decode cX6_readLeaf 41 = .ok (.iload_n 2, 1) := by decide +kernel
theorem dX6_readLeaf_42 : decode cX6_readLeaf 42 = .ok (.invokevirtual 85, 3) := by decide +kernel
theorem dX6_readLeaf_45 : decode cX6_readLeaf 45 = .ok (.return_, 1) := by decide +kernel
theorem dX6_readNumber_0 : decode cX6_readNumber 0 = .ok (.iconst 0, 1) := by decide +kernel
theorem dX6_readNumber_1 : decode cX6_readNumber 1 = .ok (.istore_n 1, 1) := by decide +kernel
theorem dX6_readNumber_2 : decode cX6_readNumber 2 = .ok (.iconst 0, 1) := by decide +kernel
theorem dX6_readNumber_3 : decode cX6_readNumber 3 = .ok (.istore_n 2, 1) := by decide +kernel
theorem dX6_readNumber_4 : decode cX6_readNumber 4 = .ok (.iload_n 2, 1) := by decide +kernel
theorem dX6_readNumber_5 : decode cX6_readNumber 5 = .ok (.iconst 4, 1) := by decide +kernel
theorem dX6_readNumber_6 : decode cX6_readNumber 6 = .ok (.if_icmp .ge 42, 3) := by decide +kernel
theorem dX6_readNumber_9 : decode cX6_readNumber 9 = .ok (.aload_n 0, 1) := by decide +kernel
theorem dX6_readNumber_10 : decode cX6_readNumber 10 = .ok (.invokevirtual 60, 3) := by decide +kernel
theorem dX6_readNumber_13 : decode cX6_readNumber 13 = .ok (.invokestatic 75, 3) := by decide +kernel
theorem dX6_readNumber_16 : decode cX6_readNumber 16 = .ok (.ifCond .eq 32, 3) := by decide +kernel
theorem dX6_readNumber_19 : decode cX6_readNumber 19 = .ok (.iload_n 1, 1) := by decide +kernel
theorem dX6_readNumber_20 : decode cX6_readNumber 20 = .ok (.bipush 10, 2) := by decide +kernel
theorem dX6_readNumber_22 : decode cX6_readNumber 22 = .ok (.imul, 1) := by decide +kernel
theorem dX6_readNumber_23 : decode cX6_readNumber 23 = .ok (.aload_n 0, 1) := by decide +kernel
theorem dX6_readNumber_24 : decode cX6_readNumber 24 = .ok (.invokevirtual 60, 3) := by decide +kernel
theorem dX6_readNumber_27 : decode cX6_readNumber 27 = .ok (.iadd, 1) := by decide +kernel
theorem dX6_readNumber_28 : decode cX6_readNumber 28 = .ok (.bipush 48, 2) := by decide +kernel
theorem dX6_readNumber_30 : decode cX6_readNumber 30 = .ok (.isub, 1) := by decide +kernel
theorem dX6_readNumber_31 : decode cX6_readNumber 31 = .ok (.istore_n 1, 1) := by decide +kernel
theorem dX6_readNumber_32 : decode cX6_readNumber 32 = .ok (.aload_n 0, 1) := by decide +kernel
theorem dX6_readNumber_33 : decode cX6_readNumber 33 = .ok (.dup, 1) := by decide +kernel
theorem dX6_readNumber_34 : decode cX6_readNumber 34 = .ok (.getfield 25, 3) := by decide +kernel
theorem dX6_readNumber_37 : decode cX6_readNumber 37 = .ok (.iconst 1, 1) := by decide +kernel
theorem dX6_readNumber_38 : decode cX6_readNumber 38 = .ok (.iadd, 1) := by decide +kernel
theorem dX6_readNumber_39 : decode cX6_readNumber 39 = .ok (.putfield 25, 3) := by decide +kernel
theorem dX6_readNumber_42 : decode cX6_readNumber 42 = .ok (.iinc 2 1, 3) := by decide +kernel
theorem dX6_readNumber_45 : decode cX6_readNumber 45 = .ok (.goto (-41), 3) := by decide +kernel
theorem dX6_readNumber_48 : decode cX6_readNumber 48 = .ok (.aload_n 0, 1) := by decide +kernel
theorem dX6_readNumber_49 : decode cX6_readNumber 49 = .ok (.iload_n 1, 1) := by decide +kernel
theorem dX6_readNumber_50 : decode cX6_readNumber 50 = .ok (.invokevirtual 68, 3) := by decide +kernel
theorem dX6_readNumber_53 : decode cX6_readNumber 53 = .ok (.return_, 1) := by decide +kernel
theorem dX6_readName_0 : decode cX6_readName 0 = .ok (.iconst 0, 1) := by decide +kernel
theorem dX6_readName_1 : decode cX6_readName 1 = .ok (.istore_n 2, 1) := by decide +kernel
theorem dX6_readName_2 : decode cX6_readName 2 = .ok (.iload_n 2, 1) := by decide +kernel
theorem dX6_readName_3 : decode cX6_readName 3 = .ok (.iconst 3, 1) := by decide +kernel
theorem dX6_readName_4 : decode cX6_readName 4 = .ok (.if_icmp .ge 59, 3) := by decide +kernel
theorem dX6_readName_7 : decode cX6_readName 7 = .ok (.aload_n 0, 1) := by decide +kernel
theorem dX6_readName_8 : decode cX6_readName 8 = .ok (.getfield 28, 3) := by decide +kernel
theorem dX6_readName_11 : decode cX6_readName 11 = .ok (.iconst 3, 1) := by decide +kernel
theorem dX6_readName_12 : decode cX6_readName 12 = .ok (.imul, 1) := by decide +kernel
theorem dX6_readName_13 : decode cX6_readName 13 = .ok (.iload_n 2, 1) := by decide +kernel
theorem dX6_readName_14 : decode cX6_readName 14 = .ok (.iadd, 1) := by decide +kernel
theorem dX6_readName_15 : decode cX6_readName 15 = .ok (.istore_n 3, 1) := by decide +kernel
theorem dX6_readName_16 : decode cX6_readName 16 = .ok (.iload_n 3, 1) := by decide +kernel
theorem dX6_readName_17 : decode cX6_readName 17 = .ok (.iconst 0, 1) := by decide +kernel
theorem dX6_readName_18 : decode cX6_readName 18 = .ok (.getstatic 88, 3) := by decide +kernel
theorem dX6_readName_21 : decode cX6_readName 21 = .ok (.arraylength, 1) := by decide +kernel
theorem dX6_readName_22 : decode cX6_readName 22 = .ok (.iconst 1, 1) := by decide +kernel
theorem dX6_readName_23 : decode cX6_readName 23 = .ok (.isub, 1) := by decide +kernel
theorem dX6_readName_24 : decode cX6_readName 24 = .ok (.invokestatic 92, 3) := by decide +kernel
theorem dX6_readName_27 : decode cX6_readName 27 = .ok (.ifCond .eq 30, 3) := by decide +kernel
theorem dX6_readName_30 : decode cX6_readName 30 = .ok (.getstatic 88, 3) := by decide +kernel
theorem dX6_readName_33 : decode cX6_readName 33 = .ok (.iload_n 3, 1) := by decide +kernel
theorem dX6_readName_34 : decode cX6_readName 34 = .ok (.caload, 1) := by decide +kernel
theorem dX6_readName_35 : decode cX6_readName 35 = .ok (.iload_n 1, 1) := by decide +kernel
theorem dX6_readName_36 : decode cX6_readName 36 = .ok (.if_icmp .ne 21, 3) := by decide +kernel
theorem dX6_readName_39 : decode cX6_readName 39 = .ok (.aload_n 0, 1) := by decide +kernel
theorem dX6_readName_40 : decode cX6_readName 40 = .ok (.dup, 1) := by decide +kernel
theorem dX6_readName_41 : decode cX6_readName 41 = .ok (.getfield 25, 3) := by decide +kernel
theorem dX6_readName_44 : decode cX6_readName 44 = .ok (.iconst 1, 1) := by decide +kernel
theorem dX6_readName_45 : decode cX6_readName 45 = .ok (.iadd, 1) := by decide +kernel
theorem dX6_readName_46 : decode cX6_readName 46 = .ok (.putfield 25, 3) := by decide +kernel
theorem dX6_readName_49 : decode cX6_readName 49 = .ok (.aload_n 0, 1) := by decide +kernel
theorem dX6_readName_50 : decode cX6_readName 50 = .ok (.iconst (-1), 1) := by decide +kernel
theorem dX6_readName_51 : decode cX6_readName 51 = .ok (.iload_n 2, 1) := by decide +kernel
theorem dX6_readName_52 : decode cX6_readName 52 = .ok (.isub, 1) := by decide +kernel
theorem dX6_readName_53 : decode cX6_readName 53 = .ok (.invokevirtual 68, 3) := by decide +kernel
theorem dX6_readName_56 : decode cX6_readName 56 = .ok (.return_, 1) := by decide +kernel
theorem dX6_readName_57 : decode cX6_readName 57 = .ok (.iinc 2 1, 3) := by decide +kernel
theorem dX6_readName_60 : decode cX6_readName 60 = .ok (.goto (-58), 3) := by decide +kernel
theorem dX6_readName_63 : decode cX6_readName 63 = .ok (.aload_n 0, 1) := by decide +kernel
theorem dX6_readName_64 : decode cX6_readName 64 = .ok (.iconst 1, 1) := by decide +kernel
theorem dX6_readName_65 : decode cX6_readName 65 = .ok (.putfield 31, 3) := by decide +kernel
theorem dX6_readName_68 : decode cX6_readName 68 = .ok (.return_, 1) := by decide +kernel
theorem dX6_readOpened_0 : decode cX6_readOpened 0 = .ok (.iload_n 2, 1) := by decide +kernel
theorem dX6_readOpened_1 : decode cX6_readOpened 1 = .ok (.iconst 5, 1) := by decide +kernel
theorem dX6_readOpened_2 : decode cX6_readOpened 2 = .ok (.if_icmp .lt 9, 3) := by decide +kernel
theorem dX6_readOpened_5 : decode cX6_readOpened 5 = .ok (.aload_n 0, 1) := by decide +kernel
theorem dX6_readOpened_6 : decode cX6_readOpened 6 = .ok (.iconst 1, 1) := by decide +kernel
theorem dX6_readOpened_7 : decode cX6_readOpened 7 = .ok (.putfield 31, 3) := by decide +kernel
theorem dX6_readOpened_10 : decode cX6_readOpened 10 = .ok (.return_, 1) := by decide +kernel
theorem dX6_readOpened_11 : decode cX6_readOpened 11 = .ok (.aload_n 0, 1) := by decide +kernel
theorem dX6_readOpened_12 : decode cX6_readOpened 12 = .ok (.dup, 1) := by decide +kernel
theorem dX6_readOpened_13 : decode cX6_readOpened 13 = .ok (.getfield 25, 3) := by decide +kernel
theorem dX6_readOpened_16 : decode cX6_readOpened 16 = .ok (.iconst 1, 1) := by decide +kernel
theorem dX6_readOpened_17 : decode cX6_readOpened 17 = .ok (.iadd, 1) := by decide +kernel
theorem dX6_readOpened_18 : decode cX6_readOpened 18 = .ok (.putfield 25, 3) := by decide +kernel
theorem dX6_readOpened_21 : decode cX6_readOpened 21 = .ok (.iload_n 1, 1) := by decide +kernel
theorem dX6_readOpened_22 : decode cX6_readOpened 22 = .ok (.bipush 33, 2) := by decide +kernel
theorem dX6_readOpened_24 : decode cX6_readOpened 24 = .ok (.if_icmp .ne 20, 3) := by decide +kernel
theorem dX6_readOpened_27 : decode cX6_readOpened 27 = .ok (.aload_n 0, 1) := by decide +kernel
theorem dX6_readOpened_28 : decode cX6_readOpened 28 = .ok (.iload_n 2, 1) := by decide +kernel
theorem dX6_readOpened_29 : decode cX6_readOpened 29 = .ok (.iconst 1, 1) := by decide +kernel
theorem dX6_readOpened_30 : decode cX6_readOpened 30 = .ok (.iadd, 1) := by decide +kernel
theorem dX6_readOpened_31 : decode cX6_readOpened 31 = .ok (.invokevirtual 72, 3) := by decide +kernel
theorem dX6_readOpened_34 : decode cX6_readOpened 34 = .ok (.aload_n 0, 1) := by decide +kernel
theorem dX6_readOpened_35 : decode cX6_readOpened 35 = .ok (.sipush 10000, 3) := by decide +kernel
theorem dX6_readOpened_38 : decode cX6_readOpened 38 = .ok (.iload_n 1, 1) := by decide +kernel
theorem dX6_readOpened_39 : decode cX6_readOpened 39 = .ok (.iadd, 1) := by decide +kernel
theorem dX6_readOpened_40 : decode cX6_readOpened 40 = .ok (.invokevirtual 68, 3) := by decide +kernel
theorem dX6_readOpened_43 : decode cX6_readOpened 43 = .ok (.return_, 1) := by decide +kernel
theorem dX6_readOpened_44 : decode cX6_readOpened 44 = .ok (.aload_n 0, 1) := by decide +kernel
theorem dX6_readOpened_45 : decode cX6_readOpened 45 = .ok (.iconst 0, 1) := by decide +kernel
theorem dX6_readOpened_46 : decode cX6_readOpened 46 = .ok (.iload_n 2, 1) := by decide +kernel
theorem dX6_readOpened_47 : decode cX6_readOpened 47 = .ok (.iconst 1, 1) := by decide +kernel
theorem dX6_readOpened_48 : decode cX6_readOpened 48 = .ok (.iadd, 1) := by decide +kernel
theorem dX6_readOpened_49 : decode cX6_readOpened 49 = .ok (.invokevirtual 53, 3) := by decide +kernel
theorem dX6_readOpened_52 : decode cX6_readOpened 52 = .ok (.aload_n 0, 1) := by decide +kernel
theorem dX6_readOpened_53 : decode cX6_readOpened 53 = .ok (.getfield 31, 3) := by decide +kernel
theorem dX6_readOpened_56 : decode cX6_readOpened 56 = .ok (.ifCond .ne 12, 3) := by decide +kernel
theorem dX6_readOpened_59 : decode cX6_readOpened 59 = .ok (.aload_n 0, 1) := by decide +kernel
theorem dX6_readOpened_60 : decode cX6_readOpened 60 = .ok (.invokevirtual 60, 3) := by decide +kernel
theorem dX6_readOpened_63 : decode cX6_readOpened 63 = .ok (.bipush 41, 2) := by decide +kernel
theorem dX6_readOpened_65 : decode cX6_readOpened 65 = .ok (.if_icmp .eq 9, 3) := by decide +kernel
theorem dX6_readOpened_68 : decode cX6_readOpened 68 = .ok (.aload_n 0, 1) := by decide +kernel
theorem dX6_readOpened_69 : decode cX6_readOpened 69 = .ok (.iconst 1, 1) := by decide +kernel
theorem dX6_readOpened_70 : decode cX6_readOpened 70 = .ok (.putfield 31, 3) := by decide +kernel
theorem dX6_readOpened_73 : decode cX6_readOpened 73 = .ok (.return_, 1) := by decide +kernel
theorem dX6_readOpened_74 : decode cX6_readOpened 74 = .ok (.aload_n 0, 1) := by decide +kernel
theorem dX6_readOpened_75 : decode cX6_readOpened 75 = .ok (.dup, 1) := by decide +kernel
theorem dX6_readOpened_76 : decode cX6_readOpened 76 = .ok (.getfield 25, 3) := by decide +kernel
theorem dX6_readOpened_79 : decode cX6_readOpened 79 = .ok (.iconst 1, 1) := by decide +kernel
theorem dX6_readOpened_80 : decode cX6_readOpened 80 = .ok (.iadd, 1) := by decide +kernel
theorem dX6_readOpened_81 : decode cX6_readOpened 81 = .ok (.putfield 25, 3) := by decide +kernel
theorem dX6_readOpened_84 : decode cX6_readOpened 84 = .ok (.return_, 1) := by decide +kernel
theorem dX6_joinsAt_0 : decode cX6_joinsAt 0 = .ok (.iload_n 1, 1) := by decide +kernel
theorem dX6_joinsAt_1 : decode cX6_joinsAt 1 = .ok (.lookupswitch 145 #[(37, 134), (38, 101), (42, 134), (43, 123), (45, 123), (47, 134), (60, 112), (61, 112), (62, 112), (124, 91)], 91) := by decide +kernel
theorem dX6_joinsAt_92 : decode cX6_joinsAt 92 = .ok (.iload_n 0, 1) := by decide +kernel
theorem dX6_joinsAt_93 : decode cX6_joinsAt 93 = .ok (.ifCond .ne 7, 3) := by decide +kernel
theorem dX6_joinsAt_96 : decode cX6_joinsAt 96 = .ok (.iconst 1, 1) := by decide +kernel
theorem dX6_joinsAt_97 : decode cX6_joinsAt 97 = .ok (.goto 4, 3) := by decide +kernel
theorem dX6_joinsAt_100 : decode cX6_joinsAt 100 = .ok (.iconst 0, 1) := by decide +kernel
theorem dX6_joinsAt_101 : decode cX6_joinsAt 101 = .ok (.ireturn, 1) := by decide +kernel
theorem dX6_joinsAt_102 : decode cX6_joinsAt 102 = .ok (.iload_n 0, 1) := by decide +kernel
theorem dX6_joinsAt_103 : decode cX6_joinsAt 103 = .ok (.iconst 1, 1) := by decide +kernel
theorem dX6_joinsAt_104 : decode cX6_joinsAt 104 = .ok (.if_icmp .ne 7, 3) := by decide +kernel
theorem dX6_joinsAt_107 : decode cX6_joinsAt 107 = .ok (.iconst 1, 1) := by decide +kernel
theorem dX6_joinsAt_108 : decode cX6_joinsAt 108 = .ok (.goto 4, 3) := by decide +kernel
theorem dX6_joinsAt_111 : decode cX6_joinsAt 111 = .ok (.iconst 0, 1) := by decide +kernel
theorem dX6_joinsAt_112 : decode cX6_joinsAt 112 = .ok (.ireturn, 1) := by decide +kernel
theorem dX6_joinsAt_113 : decode cX6_joinsAt 113 = .ok (.iload_n 0, 1) := by decide +kernel
theorem dX6_joinsAt_114 : decode cX6_joinsAt 114 = .ok (.iconst 2, 1) := by decide +kernel
theorem dX6_joinsAt_115 : decode cX6_joinsAt 115 = .ok (.if_icmp .ne 7, 3) := by decide +kernel
theorem dX6_joinsAt_118 : decode cX6_joinsAt 118 = .ok (.iconst 1, 1) := by decide +kernel
theorem dX6_joinsAt_119 : decode cX6_joinsAt 119 = .ok (.goto 4, 3) := by decide +kernel
theorem dX6_joinsAt_122 : decode cX6_joinsAt 122 = .ok (.iconst 0, 1) := by decide +kernel
theorem dX6_joinsAt_123 : decode cX6_joinsAt 123 = .ok (.ireturn, 1) := by decide +kernel
theorem dX6_joinsAt_124 : decode cX6_joinsAt 124 = .ok (.iload_n 0, 1) := by decide +kernel
theorem dX6_joinsAt_125 : decode cX6_joinsAt 125 = .ok (.iconst 3, 1) := by decide +kernel
theorem dX6_joinsAt_126 : decode cX6_joinsAt 126 = .ok (.if_icmp .ne 7, 3) := by decide +kernel
theorem dX6_joinsAt_129 : decode cX6_joinsAt 129 = .ok (.iconst 1, 1) := by decide +kernel
theorem dX6_joinsAt_130 : decode cX6_joinsAt 130 = .ok (.goto 4, 3) := by decide +kernel
theorem dX6_joinsAt_133 : decode cX6_joinsAt 133 = .ok (.iconst 0, 1) := by decide +kernel
theorem dX6_joinsAt_134 : decode cX6_joinsAt 134 = .ok (.ireturn, 1) := by decide +kernel
theorem dX6_joinsAt_135 : decode cX6_joinsAt 135 = .ok (.iload_n 0, 1) := by decide +kernel
theorem dX6_joinsAt_136 : decode cX6_joinsAt 136 = .ok (.iconst 4, 1) := by decide +kernel
theorem dX6_joinsAt_137 : decode cX6_joinsAt 137 = .ok (.if_icmp .ne 7, 3) := by decide +kernel
theorem dX6_joinsAt_140 : decode cX6_joinsAt 140 = .ok (.iconst 1, 1) := by decide +kernel
theorem dX6_joinsAt_141 : decode cX6_joinsAt 141 = .ok (.goto 4, 3) := by decide +kernel
theorem dX6_joinsAt_144 : decode cX6_joinsAt 144 = .ok (.iconst 0, 1) := by decide +kernel
theorem dX6_joinsAt_145 : decode cX6_joinsAt 145 = .ok (.ireturn, 1) := by decide +kernel
theorem dX6_joinsAt_146 : decode cX6_joinsAt 146 = .ok (.iconst 0, 1) := by decide +kernel
theorem dX6_joinsAt_147 : decode cX6_joinsAt 147 = .ok (.ireturn, 1) := by decide +kernel
theorem dX6_isDigit_0 : decode cX6_isDigit 0 = .ok (.iload_n 0, 1) := by decide +kernel
theorem dX6_isDigit_1 : decode cX6_isDigit 1 = .ok (.bipush 48, 2) := by decide +kernel
theorem dX6_isDigit_3 : decode cX6_isDigit 3 = .ok (.if_icmp .lt 13, 3) := by decide +kernel
theorem dX6_isDigit_6 : decode cX6_isDigit 6 = .ok (.iload_n 0, 1) := by decide +kernel
theorem dX6_isDigit_7 : decode cX6_isDigit 7 = .ok (.bipush 57, 2) := by decide +kernel
theorem dX6_isDigit_9 : decode cX6_isDigit 9 = .ok (.if_icmp .gt 7, 3) := by decide +kernel
theorem dX6_isDigit_12 : decode cX6_isDigit 12 = .ok (.iconst 1, 1) := by decide +kernel
theorem dX6_isDigit_13 : decode cX6_isDigit 13 = .ok (.goto 4, 3) := by decide +kernel
theorem dX6_isDigit_16 : decode cX6_isDigit 16 = .ok (.iconst 0, 1) := by decide +kernel
theorem dX6_isDigit_17 : decode cX6_isDigit 17 = .ok (.ireturn, 1) := by decide +kernel
theorem dX6_peek_0 : decode cX6_peek 0 = .ok (.aload_n 0, 1) := by decide +kernel
theorem dX6_peek_1 : decode cX6_peek 1 = .ok (.getfield 25, 3) := by decide +kernel
theorem dX6_peek_4 : decode cX6_peek 4 = .ok (.ifCond .lt 26, 3) := by decide +kernel
theorem dX6_peek_7 : decode cX6_peek 7 = .ok (.aload_n 0, 1) := by decide +kernel
theorem dX6_peek_8 : decode cX6_peek 8 = .ok (.getfield 25, 3) := by decide +kernel
theorem dX6_peek_11 : decode cX6_peek 11 = .ok (.aload_n 0, 1) := by decide +kernel
theorem dX6_peek_12 : decode cX6_peek 12 = .ok (.getfield 22, 3) := by decide +kernel
theorem dX6_peek_15 : decode cX6_peek 15 = .ok (.if_icmp .ge 15, 3) := by decide +kernel
theorem dX6_peek_18 : decode cX6_peek 18 = .ok (.aload_n 0, 1) := by decide +kernel
theorem dX6_peek_19 : decode cX6_peek 19 = .ok (.getfield 19, 3) := by decide +kernel
theorem dX6_peek_22 : decode cX6_peek 22 = .ok (.aload_n 0, 1) := by decide +kernel
theorem dX6_peek_23 : decode cX6_peek 23 = .ok (.getfield 25, 3) := by decide +kernel
theorem dX6_peek_26 : decode cX6_peek 26 = .ok (.iaload, 1) := by decide +kernel
theorem dX6_peek_27 : decode cX6_peek 27 = .ok (.goto 4, 3) := by decide +kernel
theorem dX6_peek_30 : decode cX6_peek 30 = .ok (.iconst (-1), 1) := by decide +kernel
theorem dX6_peek_31 : decode cX6_peek 31 = .ok (.ireturn, 1) := by decide +kernel
theorem dX6_write_0 : decode cX6_write 0 = .ok (.aload_n 0, 1) := by decide +kernel
theorem dX6_write_1 : decode cX6_write 1 = .ok (.getfield 15, 3) := by decide +kernel
theorem dX6_write_4 : decode cX6_write 4 = .ok (.aload_n 0, 1) := by decide +kernel
theorem dX6_write_5 : decode cX6_write 5 = .ok (.getfield 9, 3) := by decide +kernel
theorem dX6_write_8 : decode cX6_write 8 = .ok (.arraylength, 1) := by decide +kernel
theorem dX6_write_9 : decode cX6_write 9 = .ok (.if_icmp .ge 23, 3) := by decide +kernel
theorem dX6_write_12 : decode cX6_write 12 = .ok (.aload_n 0, 1) := by decide +kernel
theorem dX6_write_13 : decode cX6_write 13 = .ok (.getfield 9, 3) := by decide +kernel
theorem dX6_write_16 : decode cX6_write 16 = .ok (.aload_n 0, 1) := by decide +kernel
theorem dX6_write_17 : decode cX6_write 17 = .ok (.getfield 15, 3) := by decide +kernel
theorem dX6_write_20 : decode cX6_write 20 = .ok (.iload_n 1, 1) := by decide +kernel
theorem dX6_write_21 : decode cX6_write 21 = .ok (.iastore, 1) := by decide +kernel
theorem dX6_write_22 : decode cX6_write 22 = .ok (.aload_n 0, 1) := by decide +kernel
theorem dX6_write_23 : decode cX6_write 23 = .ok (.dup, 1) := by decide +kernel
theorem dX6_write_24 : decode cX6_write 24 = .ok (.getfield 15, 3) := by decide +kernel
theorem dX6_write_27 : decode cX6_write 27 = .ok (.iconst 1, 1) := by decide +kernel
theorem dX6_write_28 : decode cX6_write 28 = .ok (.iadd, 1) := by decide +kernel
theorem dX6_write_29 : decode cX6_write 29 = .ok (.putfield 15, 3) := by decide +kernel
theorem dX6_write_32 : decode cX6_write 32 = .ok (.return_, 1) := by decide +kernel
theorem dX7_init_0 : decode cX7_init 0 = .ok (.aload_n 0, 1) := by decide +kernel
theorem dX7_init_1 : decode cX7_init 1 = .ok (.invokespecial 1, 3) := by decide +kernel
theorem dX7_init_4 : decode cX7_init 4 = .ok (.aload_n 0, 1) := by decide +kernel
theorem dX7_init_5 : decode cX7_init 5 = .ok (.iconst 0, 1) := by decide +kernel
theorem dX7_init_6 : decode cX7_init 6 = .ok (.putfield 7, 3) := by decide +kernel
theorem dX7_init_9 : decode cX7_init 9 = .ok (.aload_n 0, 1) := by decide +kernel
theorem dX7_init_10 : decode cX7_init 10 = .ok (.iconst 0, 1) := by decide +kernel
theorem dX7_init_11 : decode cX7_init 11 = .ok (.putfield 13, 3) := by decide +kernel
theorem dX7_init_14 : decode cX7_init 14 = .ok (.aload_n 0, 1) := by decide +kernel
theorem dX7_init_15 : decode cX7_init 15 = .ok (.bipush 40, 2) := by decide +kernel
theorem dX7_init_17 : decode cX7_init 17 = .ok (.newarray .int, 2) := by decide +kernel
theorem dX7_init_19 : decode cX7_init 19 = .ok (.putfield 16, 3) := by decide +kernel
theorem dX7_init_22 : decode cX7_init 22 = .ok (.return_, 1) := by decide +kernel
theorem dX7_canHave_0 : decode cX7_canHave 0 = .ok (.iload_n 0, 1) := by decide +kernel
theorem dX7_canHave_1 : decode cX7_canHave 1 = .ok (.ifCond .eq 21, 3) := by decide +kernel
theorem dX7_canHave_4 : decode cX7_canHave 4 = .ok (.iload_n 0, 1) := by decide +kernel
theorem dX7_canHave_5 : decode cX7_canHave 5 = .ok (.bipush 8, 2) := by decide +kernel
theorem dX7_canHave_7 : decode cX7_canHave 7 = .ok (.if_icmp .eq 15, 3) := by decide +kernel
theorem dX7_canHave_10 : decode cX7_canHave 10 = .ok (.iload_n 0, 1) := by decide +kernel
theorem dX7_canHave_11 : decode cX7_canHave 11 = .ok (.bipush 16, 2) := by decide +kernel
theorem dX7_canHave_13 : decode cX7_canHave 13 = .ok (.if_icmp .eq 9, 3) := by decide +kernel
theorem dX7_canHave_16 : decode cX7_canHave 16 = .ok (.iload_n 0, 1) := by decide +kernel
theorem dX7_canHave_17 : decode cX7_canHave 17 = .ok (.bipush 32, 2) := by decide +kernel
theorem dX7_canHave_19 : decode cX7_canHave 19 = .ok (.if_icmp .ne 7, 3) := by decide +kernel
theorem dX7_canHave_22 : decode cX7_canHave 22 = .ok (.iconst 1, 1) := by decide +kernel
theorem dX7_canHave_23 : decode cX7_canHave 23 = .ok (.goto 4, 3) := by decide +kernel
theorem dX7_canHave_26 : decode cX7_canHave 26 = .ok (.iconst 0, 1) := by decide +kernel
theorem dX7_canHave_27 : decode cX7_canHave 27 = .ok (.ireturn, 1) := by decide +kernel
theorem dX7_isMissing_0 : decode cX7_isMissing 0 = .ok (.aload_n 0, 1) := by decide +kernel
theorem dX7_isMissing_1 : decode cX7_isMissing 1 = .ok (.getfield 7, 3) := by decide +kernel
theorem dX7_isMissing_4 : decode cX7_isMissing 4 = .ok (.ifCond .ne 7, 3) := by decide +kernel
theorem dX7_isMissing_7 : decode cX7_isMissing 7 = .ok (.iconst 1, 1) := by decide +kernel
theorem dX7_isMissing_8 : decode cX7_isMissing 8 = .ok (.goto 4, 3) := by decide +kernel
theorem dX7_isMissing_11 : decode cX7_isMissing 11 = .ok (.iconst 0, 1) := by decide +kernel
theorem dX7_isMissing_12 : decode cX7_isMissing 12 = .ok (.ireturn, 1) := by decide +kernel
theorem dX7_lose_0 : decode cX7_lose 0 = .ok (.aload_n 0, 1) := by decide +kernel
theorem dX7_lose_1 : decode cX7_lose 1 = .ok (.iconst 0, 1) := by decide +kernel
theorem dX7_lose_2 : decode cX7_lose 2 = .ok (.putfield 7, 3) := by decide +kernel
theorem dX7_lose_5 : decode cX7_lose 5 = .ok (.aload_n 0, 1) := by decide +kernel
theorem dX7_lose_6 : decode cX7_lose 6 = .ok (.iconst 0, 1) := by decide +kernel
theorem dX7_lose_7 : decode cX7_lose 7 = .ok (.putfield 13, 3) := by decide +kernel
theorem dX7_lose_10 : decode cX7_lose 10 = .ok (.return_, 1) := by decide +kernel
theorem dX7_clear_0 : decode cX7_clear 0 = .ok (.aload_n 0, 1) := by decide +kernel
theorem dX7_clear_1 : decode cX7_clear 1 = .ok (.iload_n 1, 1) := by decide +kernel
theorem dX7_clear_2 : decode cX7_clear 2 = .ok (.putfield 7, 3) := by decide +kernel
theorem dX7_clear_5 : decode cX7_clear 5 = .ok (.aload_n 0, 1) := by decide +kernel
theorem dX7_clear_6 : decode cX7_clear 6 = .ok (.iload_n 2, 1) := by decide +kernel
theorem dX7_clear_7 : decode cX7_clear 7 = .ok (.putfield 13, 3) := by decide +kernel
theorem dX7_clear_10 : decode cX7_clear 10 = .ok (.aload_n 0, 1) := by decide +kernel
theorem dX7_clear_11 : decode cX7_clear 11 = .ok (.getfield 16, 3) := by decide +kernel
theorem dX7_clear_14 : decode cX7_clear 14 = .ok (.iconst 0, 1) := by decide +kernel
theorem dX7_clear_15 : decode cX7_clear 15 = .ok (.invokestatic 20, 3) := by decide +kernel
theorem dX7_clear_18 : decode cX7_clear 18 = .ok (.return_, 1) := by decide +kernel
theorem dX7_write_0 : decode cX7_write 0 = .ok (.aload_n 0, 1) := by decide +kernel
theorem dX7_write_1 : decode cX7_write 1 = .ok (.getfield 16, 3) := by decide +kernel
theorem dX7_write_4 : decode cX7_write 4 = .ok (.iload_n 1, 1) := by decide +kernel
theorem dX7_write_5 : decode cX7_write 5 = .ok (.aload_n 0, 1) := by decide +kernel
theorem dX7_write_6 : decode cX7_write 6 = .ok (.getfield 7, 3) := by decide +kernel
theorem dX7_write_9 : decode cX7_write 9 = .ok (.bipush 32, 2) := by decide +kernel
theorem dX7_write_11 : decode cX7_write 11 = .ok (.if_icmp .ne 7, 3) := by decide +kernel
theorem dX7_write_14 : decode cX7_write 14 = .ok (.iload_n 2, 1) := by decide +kernel
theorem dX7_write_15 : decode cX7_write 15 = .ok (.goto 13, 3) := by decide +kernel
theorem dX7_write_18 : decode cX7_write 18 = .ok (.iload_n 2, 1) := by decide +kernel
theorem dX7_write_19 : decode cX7_write 19 = .ok (.iconst 1, 1) := by decide +kernel
theorem dX7_write_20 : decode cX7_write 20 = .ok (.aload_n 0, 1) := by decide +kernel
theorem dX7_write_21 : decode cX7_write 21 = .ok (.getfield 7, 3) := by decide +kernel
theorem dX7_write_24 : decode cX7_write 24 = .ok (.ishl, 1) := by decide +kernel
theorem dX7_write_25 : decode cX7_write 25 = .ok (.iconst 1, 1) := by decide +kernel
theorem dX7_write_26 : decode cX7_write 26 = .ok (.isub, 1) := by decide +kernel
theorem dX7_write_27 : decode cX7_write 27 = .ok (.iand, 1) := by decide +kernel
theorem dX7_write_28 : decode cX7_write 28 = .ok (.iastore, 1) := by decide +kernel
theorem dX7_write_29 : decode cX7_write 29 = .ok (.return_, 1) := by decide +kernel
theorem dX7_hasPart_0 : decode cX7_hasPart 0 = .ok (.iload_n 2, 1) := by decide +kernel
theorem dX7_hasPart_1 : decode cX7_hasPart 1 = .ok (.ifCond .lt 29, 3) := by decide +kernel
theorem dX7_hasPart_4 : decode cX7_hasPart 4 = .ok (.iload_n 1, 1) := by decide +kernel
theorem dX7_hasPart_5 : decode cX7_hasPart 5 = .ok (.iconst 0, 1) := by decide +kernel
theorem dX7_hasPart_6 : decode cX7_hasPart 6 = .ok (.aload_n 0, 1) := by decide +kernel
theorem dX7_hasPart_7 : decode cX7_hasPart 7 = .ok (.getfield 13, 3) := by decide +kernel
theorem dX7_hasPart_10 : decode cX7_hasPart 10 = .ok (.invokestatic 26, 3) := by decide +kernel
theorem dX7_hasPart_13 : decode cX7_hasPart 13 = .ok (.ifCond .eq 17, 3) := by decide +kernel
theorem dX7_hasPart_16 : decode cX7_hasPart 16 = .ok (.iload_n 2, 1) := by decide +kernel
theorem dX7_hasPart_17 : decode cX7_hasPart 17 = .ok (.aload_n 0, 1) := by decide +kernel
theorem dX7_hasPart_18 : decode cX7_hasPart 18 = .ok (.getfield 13, 3) := by decide +kernel
theorem dX7_hasPart_21 : decode cX7_hasPart 21 = .ok (.iload_n 1, 1) := by decide +kernel
theorem dX7_hasPart_22 : decode cX7_hasPart 22 = .ok (.isub, 1) := by decide +kernel
theorem dX7_hasPart_23 : decode cX7_hasPart 23 = .ok (.if_icmp .gt 7, 3) := by decide +kernel
theorem dX7_hasPart_26 : decode cX7_hasPart 26 = .ok (.iconst 1, 1) := by decide +kernel
theorem dX7_hasPart_27 : decode cX7_hasPart 27 = .ok (.goto 4, 3) := by decide +kernel
theorem dX7_hasPart_30 : decode cX7_hasPart 30 = .ok (.iconst 0, 1) := by decide +kernel
theorem dX7_hasPart_31 : decode cX7_hasPart 31 = .ok (.ireturn, 1) := by decide +kernel
theorem dX8_init_0 : decode cX8_init 0 = .ok (.aload_n 0, 1) := by decide +kernel
theorem dX8_init_1 : decode cX8_init 1 = .ok (.invokespecial 1, 3) := by decide +kernel
theorem dX8_init_4 : decode cX8_init 4 = .ok (.aload_n 0, 1) := by decide +kernel
theorem dX8_init_5 : decode cX8_init 5 = .ok (.bipush 40, 2) := by decide +kernel
theorem dX8_init_7 : decode cX8_init 7 = .ok (.newarray .int, 2) := by decide +kernel
theorem dX8_init_9 : decode cX8_init 9 = .ok (.putfield 9, 3) := by decide +kernel
theorem dX8_init_12 : decode cX8_init 12 = .ok (.aload_n 0, 1) := by decide +kernel
theorem dX8_init_13 : decode cX8_init 13 = .ok (.iconst 0, 1) := by decide +kernel
theorem dX8_init_14 : decode cX8_init 14 = .ok (.putfield 13, 3) := by decide +kernel
theorem dX8_init_17 : decode cX8_init 17 = .ok (.aload_n 0, 1) := by decide +kernel
theorem dX8_init_18 : decode cX8_init 18 = .ok (.iconst 0, 1) := by decide +kernel
theorem dX8_init_19 : decode cX8_init 19 = .ok (.putfield 17, 3) := by decide +kernel
theorem dX8_init_22 : decode cX8_init 22 = .ok (.aload_n 0, 1) := by decide +kernel
theorem dX8_init_23 : decode cX8_init 23 = .ok (.iconst 0, 1) := by decide +kernel
theorem dX8_init_24 : decode cX8_init 24 = .ok (.putfield 20, 3) := by decide +kernel
theorem dX8_init_27 : decode cX8_init 27 = .ok (.aload_n 0, 1) := by decide +kernel
theorem dX8_init_28 : decode cX8_init 28 = .ok (.iconst 0, 1) := by decide +kernel
theorem dX8_init_29 : decode cX8_init 29 = .ok (.putfield 23, 3) := by decide +kernel
theorem dX8_init_32 : decode cX8_init 32 = .ok (.return_, 1) := by decide +kernel
theorem dX8_speakFor_0 : decode cX8_speakFor 0 = .ok (.aload_n 0, 1) := by decide +kernel
theorem dX8_speakFor_1 : decode cX8_speakFor 1 = .ok (.aload_n 1, 1) := by decide +kernel
theorem dX8_speakFor_2 : decode cX8_speakFor 2 = .ok (.getfield 26, 3) := by decide +kernel
theorem dX8_speakFor_5 : decode cX8_speakFor 5 = .ok (.iload_n 2, 1) := by decide +kernel
theorem dX8_speakFor_6 : decode cX8_speakFor 6 = .ok (.iaload, 1) := by decide +kernel
theorem dX8_speakFor_7 : decode cX8_speakFor 7 = .ok (.putfield 17, 3) := by decide +kernel
theorem dX8_speakFor_10 : decode cX8_speakFor 10 = .ok (.aload_n 0, 1) := by decide +kernel
theorem dX8_speakFor_11 : decode cX8_speakFor 11 = .ok (.iload_n 2, 1) := by decide +kernel
theorem dX8_speakFor_12 : decode cX8_speakFor 12 = .ok (.putfield 20, 3) := by decide +kernel
theorem dX8_speakFor_15 : decode cX8_speakFor 15 = .ok (.aload_n 0, 1) := by decide +kernel
theorem dX8_speakFor_16 : decode cX8_speakFor 16 = .ok (.aload_n 1, 1) := by decide +kernel
theorem dX8_speakFor_17 : decode cX8_speakFor 17 = .ok (.getfield 31, 3) := by decide +kernel
theorem dX8_speakFor_20 : decode cX8_speakFor 20 = .ok (.iload_n 2, 1) := by decide +kernel
theorem dX8_speakFor_21 : decode cX8_speakFor 21 = .ok (.iaload, 1) := by decide +kernel
theorem dX8_speakFor_22 : decode cX8_speakFor 22 = .ok (.putfield 23, 3) := by decide +kernel
theorem dX8_speakFor_25 : decode cX8_speakFor 25 = .ok (.aload_n 0, 1) := by decide +kernel
theorem dX8_speakFor_26 : decode cX8_speakFor 26 = .ok (.iconst 0, 1) := by decide +kernel
theorem dX8_speakFor_27 : decode cX8_speakFor 27 = .ok (.putfield 13, 3) := by decide +kernel
theorem dX8_speakFor_30 : decode cX8_speakFor 30 = .ok (.aload_n 0, 1) := by decide +kernel
theorem dX8_speakFor_31 : decode cX8_speakFor 31 = .ok (.aload_n 0, 1) := by decide +kernel
theorem dX8_speakFor_32 : decode cX8_speakFor 32 = .ok (.getfield 17, 3) := by decide +kernel
theorem dX8_speakFor_35 : decode cX8_speakFor 35 = .ok (.iload_n 3, 1) := by decide +kernel
theorem dX8_speakFor_36 : decode cX8_speakFor 36 = .ok (.iload 4, 2) := by decide +kernel
theorem dX8_speakFor_38 : decode cX8_speakFor 38 = .ok (.iconst 0, 1) := by decide +kernel
theorem dX8_speakFor_39 : decode cX8_speakFor 39 = .ok (.invokevirtual 34, 3) := by decide +kernel
theorem dX8_speakFor_42 : decode cX8_speakFor 42 = .ok (.ireturn, 1) := by decide +kernel
theorem dX8_spoken_0 : decode cX8_spoken 0 = .ok (.iload_n 1, 1) := by decide +kernel
theorem dX8_spoken_1 : decode cX8_spoken 1 = .ok (.iload_n 2, 1) := by decide +kernel
theorem dX8_spoken_2 : decode cX8_spoken 2 = .ok (.invokestatic 38, 3) := by decide +kernel
theorem dX8_spoken_5 : decode cX8_spoken 5 = .ok (.istore 5, 2) := by decide +kernel
theorem dX8_spoken_7 : decode cX8_spoken 7 = .ok (.iload 5, 2) := by decide +kernel
theorem dX8_spoken_9 : decode cX8_spoken 9 = .ok (.ifCond .eq 10, 3) := by decide +kernel
theorem dX8_spoken_12 : decode cX8_spoken 12 = .ok (.iload 4, 2) := by decide +kernel
theorem dX8_spoken_14 : decode cX8_spoken 14 = .ok (.bipush 40, 2) := by decide +kernel
theorem dX8_spoken_16 : decode cX8_spoken 16 = .ok (.if_icmp .le 5, 3) := by decide +kernel
theorem dX8_spoken_19 : decode cX8_spoken 19 = .ok (.iconst 0, 1) := by decide +kernel
theorem dX8_spoken_20 : decode cX8_spoken 20 = .ok (.ireturn, 1) := by decide +kernel
theorem dX8_spoken_21 : decode cX8_spoken 21 = .ok (.aload_n 0, 1) := by decide +kernel
theorem dX8_spoken_22 : decode cX8_spoken 22 = .ok (.getfield 13, 3) := by decide +kernel
theorem dX8_spoken_25 : decode cX8_spoken 25 = .ok (.bipush 40, 2) := by decide +kernel
theorem dX8_spoken_27 : decode cX8_spoken 27 = .ok (.if_icmp .ge 24, 3) := by decide +kernel
theorem dX8_spoken_30 : decode cX8_spoken 30 = .ok (.aload_n 0, 1) := by decide +kernel
theorem dX8_spoken_31 : decode cX8_spoken 31 = .ok (.getfield 9, 3) := by decide +kernel
theorem dX8_spoken_34 : decode cX8_spoken 34 = .ok (.aload_n 0, 1) := by decide +kernel
theorem dX8_spoken_35 : decode cX8_spoken 35 = .ok (.getfield 13, 3) := by decide +kernel
theorem dX8_spoken_38 : decode cX8_spoken 38 = .ok (.iload 5, 2) := by decide +kernel
theorem dX8_spoken_40 : decode cX8_spoken 40 = .ok (.iastore, 1) := by decide +kernel
theorem dX8_spoken_41 : decode cX8_spoken 41 = .ok (.aload_n 0, 1) := by decide +kernel
theorem dX8_spoken_42 : decode cX8_spoken 42 = .ok (.dup, 1) := by decide +kernel
theorem dX8_spoken_43 : decode cX8_spoken 43 = .ok (.getfield 13, 3) := by decide +kernel
theorem dX8_spoken_46 : decode cX8_spoken 46 = .ok (.iconst 1, 1) := by decide +kernel
theorem dX8_spoken_47 : decode cX8_spoken 47 = .ok (.iadd, 1) := by decide +kernel
theorem dX8_spoken_48 : decode cX8_spoken 48 = .ok (.putfield 13, 3) := by decide +kernel
theorem dX8_spoken_51 : decode cX8_spoken 51 = .ok (.aload_n 0, 1) := by decide +kernel
theorem dX8_spoken_52 : decode cX8_spoken 52 = .ok (.iload 5, 2) := by decide +kernel
theorem dX8_spoken_54 : decode cX8_spoken 54 = .ok (.iload_n 3, 1) := by decide +kernel
theorem dX8_spoken_55 : decode cX8_spoken 55 = .ok (.iload 4, 2) := by decide +kernel
theorem dX8_spoken_57 : decode cX8_spoken 57 = .ok (.iconst 1, 1) := by decide +kernel
theorem dX8_spoken_58 : decode cX8_spoken 58 = .ok (.iadd, 1) := by decide +kernel
theorem dX8_spoken_59 : decode cX8_spoken 59 = .ok (.invokevirtual 42, 3) := by decide +kernel
theorem dX8_spoken_62 : decode cX8_spoken 62 = .ok (.ireturn, 1) := by decide +kernel
theorem dX8_worked_0 : decode cX8_worked 0 = .ok (.iload_n 1, 1) := by decide +kernel
theorem dX8_worked_1 : decode cX8_worked 1 = .ok (.lookupswitch 212 #[(10, 91), (11, 98), (12, 108), (13, 115), (20, 131), (30, 148), (40, 159), (50, 169), (60, 180), (70, 197)], 91) := by decide +kernel
theorem dX8_worked_92 : decode cX8_worked 92 = .ok (.iload_n 2, 1) := by decide +kernel
theorem dX8_worked_93 : decode cX8_worked 93 = .ok (.aload_n 0, 1) := by decide +kernel
theorem dX8_worked_94 : decode cX8_worked 94 = .ok (.getfield 20, 3) := by decide +kernel
theorem dX8_worked_97 : decode cX8_worked 97 = .ok (.iadd, 1) := by decide +kernel
theorem dX8_worked_98 : decode cX8_worked 98 = .ok (.ireturn, 1) := by decide +kernel
theorem dX8_worked_99 : decode cX8_worked 99 = .ok (.aload_n 0, 1) := by decide +kernel
theorem dX8_worked_100 : decode cX8_worked 100 = .ok (.iconst 0, 1) := by decide +kernel
theorem dX8_worked_101 : decode cX8_worked 101 = .ok (.iload_n 2, 1) := by decide +kernel
theorem dX8_worked_102 : decode cX8_worked 102 = .ok (.iload_n 3, 1) := by decide +kernel
theorem dX8_worked_103 : decode cX8_worked 103 = .ok (.invokevirtual 46, 3) := by decide +kernel
theorem dX8_worked_106 : decode cX8_worked 106 = .ok (.iconst 2, 1) := by decide +kernel
theorem dX8_worked_107 : decode cX8_worked 107 = .ok (.imul, 1) := by decide +kernel
theorem dX8_worked_108 : decode cX8_worked 108 = .ok (.ireturn, 1) := by decide +kernel
theorem dX8_worked_109 : decode cX8_worked 109 = .ok (.iload_n 2, 1) := by decide +kernel
theorem dX8_worked_110 : decode cX8_worked 110 = .ok (.aload_n 0, 1) := by decide +kernel
theorem dX8_worked_111 : decode cX8_worked 111 = .ok (.getfield 23, 3) := by decide +kernel
theorem dX8_worked_114 : decode cX8_worked 114 = .ok (.isub, 1) := by decide +kernel
theorem dX8_worked_115 : decode cX8_worked 115 = .ok (.ireturn, 1) := by decide +kernel
theorem dX8_worked_116 : decode cX8_worked 116 = .ok (.aload_n 0, 1) := by decide +kernel
theorem dX8_worked_117 : decode cX8_worked 117 = .ok (.iconst 1, 1) := by decide +kernel
theorem dX8_worked_118 : decode cX8_worked 118 = .ok (.iload_n 2, 1) := by decide +kernel
theorem dX8_worked_119 : decode cX8_worked 119 = .ok (.iload_n 3, 1) := by decide +kernel
theorem dX8_worked_120 : decode cX8_worked 120 = .ok (.invokevirtual 46, 3) := by decide +kernel
theorem dX8_worked_123 : decode cX8_worked 123 = .ok (.aload_n 0, 1) := by decide +kernel
theorem dX8_worked_124 : decode cX8_worked 124 = .ok (.iconst 2, 1) := by decide +kernel
theorem dX8_worked_125 : decode cX8_worked 125 = .ok (.iload_n 2, 1) := by decide +kernel
theorem dX8_worked_126 : decode cX8_worked 126 = .ok (.iload_n 3, 1) := by decide +kernel
theorem dX8_worked_127 : decode cX8_worked 127 = .ok (.invokevirtual 46, 3) := by decide +kernel
theorem dX8_worked_130 : decode cX8_worked 130 = .ok (.ixor, 1) := by decide +kernel
theorem dX8_worked_131 : decode cX8_worked 131 = .ok (.ireturn, 1) := by decide +kernel
theorem dX8_worked_132 : decode cX8_worked 132 = .ok (.aload_n 0, 1) := by decide +kernel
theorem dX8_worked_133 : decode cX8_worked 133 = .ok (.iconst 1, 1) := by decide +kernel
theorem dX8_worked_134 : decode cX8_worked 134 = .ok (.iconst 1, 1) := by decide +kernel
theorem dX8_worked_135 : decode cX8_worked 135 = .ok (.iload_n 2, 1) := by decide +kernel
theorem dX8_worked_136 : decode cX8_worked 136 = .ok (.iload_n 3, 1) := by decide +kernel
theorem dX8_worked_137 : decode cX8_worked 137 = .ok (.invokevirtual 49, 3) := by decide +kernel
theorem dX8_worked_140 : decode cX8_worked 140 = .ok (.aload_n 0, 1) := by decide +kernel
theorem dX8_worked_141 : decode cX8_worked 141 = .ok (.iconst 2, 1) := by decide +kernel
theorem dX8_worked_142 : decode cX8_worked 142 = .ok (.iconst 1, 1) := by decide +kernel
theorem dX8_worked_143 : decode cX8_worked 143 = .ok (.iload_n 3, 1) := by decide +kernel
theorem dX8_worked_144 : decode cX8_worked 144 = .ok (.invokevirtual 46, 3) := by decide +kernel
theorem dX8_worked_147 : decode cX8_worked 147 = .ok (.isub, 1) := by decide +kernel
theorem dX8_worked_148 : decode cX8_worked 148 = .ok (.ireturn, 1) := by decide +kernel
theorem dX8_worked_149 : decode cX8_worked 149 = .ok (.aload_n 0, 1) := by decide +kernel
theorem dX8_worked_150 : decode cX8_worked 150 = .ok (.iconst 2, 1) := by decide +kernel
theorem dX8_worked_151 : decode cX8_worked 151 = .ok (.iconst 0, 1) := by decide +kernel
theorem dX8_worked_152 : decode cX8_worked 152 = .ok (.iload_n 2, 1) := by decide +kernel
theorem dX8_worked_153 : decode cX8_worked 153 = .ok (.iload_n 3, 1) := by decide +kernel
theorem dX8_worked_154 : decode cX8_worked 154 = .ok (.invokevirtual 49, 3) := by decide +kernel
theorem dX8_worked_157 : decode cX8_worked 157 = .ok (.iconst 3, 1) := by decide +kernel
theorem dX8_worked_158 : decode cX8_worked 158 = .ok (.imul, 1) := by decide +kernel
theorem dX8_worked_159 : decode cX8_worked 159 = .ok (.ireturn, 1) := by decide +kernel
theorem dX8_worked_160 : decode cX8_worked 160 = .ok (.aload_n 0, 1) := by decide +kernel
theorem dX8_worked_161 : decode cX8_worked 161 = .ok (.iconst 3, 1) := by decide +kernel
theorem dX8_worked_162 : decode cX8_worked 162 = .ok (.iconst 2, 1) := by decide +kernel
theorem dX8_worked_163 : decode cX8_worked 163 = .ok (.iload_n 2, 1) := by decide +kernel
theorem dX8_worked_164 : decode cX8_worked 164 = .ok (.iload_n 3, 1) := by decide +kernel
theorem dX8_worked_165 : decode cX8_worked 165 = .ok (.invokevirtual 49, 3) := by decide +kernel
theorem dX8_worked_168 : decode cX8_worked 168 = .ok (.ineg, 1) := by decide +kernel
theorem dX8_worked_169 : decode cX8_worked 169 = .ok (.ireturn, 1) := by decide +kernel
theorem dX8_worked_170 : decode cX8_worked 170 = .ok (.aload_n 0, 1) := by decide +kernel
theorem dX8_worked_171 : decode cX8_worked 171 = .ok (.iconst 4, 1) := by decide +kernel
theorem dX8_worked_172 : decode cX8_worked 172 = .ok (.iconst 1, 1) := by decide +kernel
theorem dX8_worked_173 : decode cX8_worked 173 = .ok (.iload_n 2, 1) := by decide +kernel
theorem dX8_worked_174 : decode cX8_worked 174 = .ok (.iconst 1, 1) := by decide +kernel
theorem dX8_worked_175 : decode cX8_worked 175 = .ok (.iadd, 1) := by decide +kernel
theorem dX8_worked_176 : decode cX8_worked 176 = .ok (.iload_n 3, 1) := by decide +kernel
theorem dX8_worked_177 : decode cX8_worked 177 = .ok (.invokevirtual 49, 3) := by decide +kernel
theorem dX8_worked_180 : decode cX8_worked 180 = .ok (.ireturn, 1) := by decide +kernel
theorem dX8_worked_181 : decode cX8_worked 181 = .ok (.aload_n 0, 1) := by decide +kernel
theorem dX8_worked_182 : decode cX8_worked 182 = .ok (.iconst 5, 1) := by decide +kernel
theorem dX8_worked_183 : decode cX8_worked 183 = .ok (.iconst 3, 1) := by decide +kernel
theorem dX8_worked_184 : decode cX8_worked 184 = .ok (.iload_n 2, 1) := by decide +kernel
theorem dX8_worked_185 : decode cX8_worked 185 = .ok (.iload_n 3, 1) := by decide +kernel
theorem dX8_worked_186 : decode cX8_worked 186 = .ok (.invokevirtual 49, 3) := by decide +kernel
theorem dX8_worked_189 : decode cX8_worked 189 = .ok (.aload_n 0, 1) := by decide +kernel
theorem dX8_worked_190 : decode cX8_worked 190 = .ok (.iconst 0, 1) := by decide +kernel
theorem dX8_worked_191 : decode cX8_worked 191 = .ok (.iconst 2, 1) := by decide +kernel
theorem dX8_worked_192 : decode cX8_worked 192 = .ok (.iload_n 3, 1) := by decide +kernel
theorem dX8_worked_193 : decode cX8_worked 193 = .ok (.invokevirtual 46, 3) := by decide +kernel
theorem dX8_worked_196 : decode cX8_worked 196 = .ok (.isub, 1) := by decide +kernel
theorem dX8_worked_197 : decode cX8_worked 197 = .ok (.ireturn, 1) := by decide +kernel
theorem dX8_worked_198 : decode cX8_worked 198 = .ok (.aload_n 0, 1) := by decide +kernel
theorem dX8_worked_199 : decode cX8_worked 199 = .ok (.bipush 6, 2) := by decide +kernel
theorem dX8_worked_201 : decode cX8_worked 201 = .ok (.iconst 2, 1) := by decide +kernel
theorem dX8_worked_202 : decode cX8_worked 202 = .ok (.iload_n 2, 1) := by decide +kernel
theorem dX8_worked_203 : decode cX8_worked 203 = .ok (.iload_n 3, 1) := by decide +kernel
theorem dX8_worked_204 : decode cX8_worked 204 = .ok (.invokevirtual 49, 3) := by decide +kernel
theorem dX8_worked_207 : decode cX8_worked 207 = .ok (.aload_n 0, 1) := by decide +kernel
theorem dX8_worked_208 : decode cX8_worked 208 = .ok (.getfield 20, 3) := by decide +kernel
theorem dX8_worked_211 : decode cX8_worked 211 = .ok (.ixor, 1) := by decide +kernel
theorem dX8_worked_212 : decode cX8_worked 212 = .ok (.ireturn, 1) := by decide +kernel
theorem dX8_worked_213 : decode cX8_worked 213 = .ok (.aload_n 0, 1) := by decide +kernel
theorem dX8_worked_214 : decode cX8_worked 214 = .ok (.iconst 1, 1) := by decide +kernel
theorem dX8_worked_215 : decode cX8_worked 215 = .ok (.iload_n 2, 1) := by decide +kernel
theorem dX8_worked_216 : decode cX8_worked 216 = .ok (.iload_n 3, 1) := by decide +kernel
theorem dX8_worked_217 : decode cX8_worked 217 = .ok (.invokevirtual 46, 3) := by decide +kernel
theorem dX8_worked_220 : decode cX8_worked 220 = .ok (.aload_n 0, 1) := by decide +kernel
theorem dX8_worked_221 : decode cX8_worked 221 = .ok (.bipush 6, 2) := by decide +kernel
theorem dX8_worked_223 : decode cX8_worked 223 = .ok (.iconst 3, 1) := by decide +kernel
theorem dX8_worked_224 : decode cX8_worked 224 = .ok (.iload_n 2, 1) := by decide +kernel
theorem dX8_worked_225 : decode cX8_worked 225 = .ok (.iload_n 3, 1) := by decide +kernel
theorem dX8_worked_226 : decode cX8_worked 226 = .ok (.invokevirtual 49, 3) := by decide +kernel
theorem dX8_worked_229 : decode cX8_worked 229 = .ok (.isub, 1) := by decide +kernel
theorem dX8_worked_230 : decode cX8_worked 230 = .ok (.ireturn, 1) := by decide +kernel
theorem dX8_own_0 : decode cX8_own 0 = .ok (.aload_n 0, 1) := by decide +kernel
theorem dX8_own_1 : decode cX8_own 1 = .ok (.aload_n 0, 1) := by decide +kernel
theorem dX8_own_2 : decode cX8_own 2 = .ok (.getfield 17, 3) := by decide +kernel
theorem dX8_own_5 : decode cX8_own 5 = .ok (.iload_n 1, 1) := by decide +kernel
theorem dX8_own_6 : decode cX8_own 6 = .ok (.iload_n 2, 1) := by decide +kernel
theorem dX8_own_7 : decode cX8_own 7 = .ok (.iload_n 3, 1) := by decide +kernel
theorem dX8_own_8 : decode cX8_own 8 = .ok (.invokevirtual 34, 3) := by decide +kernel
theorem dX8_own_11 : decode cX8_own 11 = .ok (.ireturn, 1) := by decide +kernel
theorem dX8_above_0 : decode cX8_above 0 = .ok (.aload_n 0, 1) := by decide +kernel
theorem dX8_above_1 : decode cX8_above 1 = .ok (.iload_n 1, 1) := by decide +kernel
theorem dX8_above_2 : decode cX8_above 2 = .ok (.invokestatic 52, 3) := by decide +kernel
theorem dX8_above_5 : decode cX8_above 5 = .ok (.iload_n 2, 1) := by decide +kernel
theorem dX8_above_6 : decode cX8_above 6 = .ok (.iload_n 3, 1) := by decide +kernel
theorem dX8_above_7 : decode cX8_above 7 = .ok (.iload 4, 2) := by decide +kernel
theorem dX8_above_9 : decode cX8_above 9 = .ok (.invokevirtual 34, 3) := by decide +kernel
theorem dX8_above_12 : decode cX8_above 12 = .ok (.ireturn, 1) := by decide +kernel
theorem dX8_bodyOf_0 : decode cX8_bodyOf 0 = .ok (.iload_n 0, 1) := by decide +kernel
theorem dX8_bodyOf_1 : decode cX8_bodyOf 1 = .ok (.istore_n 2, 1) := by decide +kernel
theorem dX8_bodyOf_2 : decode cX8_bodyOf 2 = .ok (.iconst 0, 1) := by decide +kernel
theorem dX8_bodyOf_3 : decode cX8_bodyOf 3 = .ok (.istore_n 3, 1) := by decide +kernel
theorem dX8_bodyOf_4 : decode cX8_bodyOf 4 = .ok (.iload_n 3, 1) := by decide +kernel
theorem dX8_bodyOf_5 : decode cX8_bodyOf 5 = .ok (.bipush 7, 2) := by decide +kernel
theorem dX8_bodyOf_7 : decode cX8_bodyOf 7 = .ok (.if_icmp .ge 56, 3) := by decide +kernel
theorem dX8_bodyOf_10 : decode cX8_bodyOf 10 = .ok (.iload_n 2, 1) := by decide +kernel
theorem dX8_bodyOf_11 : decode cX8_bodyOf 11 = .ok (.ifCond .lt 52, 3) := by decide +kernel
theorem dX8_bodyOf_14 : decode cX8_bodyOf 14 = .ok (.iload_n 2, 1) := by decide +kernel
theorem dX8_bodyOf_15 : decode cX8_bodyOf 15 = .ok (.iconst 4, 1) := by decide +kernel
theorem dX8_bodyOf_16 : decode cX8_bodyOf 16 = .ok (.imul, 1) := by decide +kernel
theorem dX8_bodyOf_17 : decode cX8_bodyOf 17 = .ok (.iload_n 1, 1) := by decide +kernel
theorem dX8_bodyOf_18 : decode cX8_bodyOf 18 = .ok (.iadd, 1) := by decide +kernel
theorem dX8_bodyOf_19 : decode cX8_bodyOf 19 = .ok (.istore 4, 2) := by decide +kernel
theorem dX8_bodyOf_21 : decode cX8_bodyOf 21 = .ok (.iload 4, 2) := by decide +kernel
theorem dX8_bodyOf_23 : decode cX8_bodyOf 23 = .ok (.iconst 0, 1) := by decide +kernel
theorem dX8_bodyOf_24 : decode cX8_bodyOf 24 = .ok (.getstatic 55, 3) := by decide +kernel
theorem dX8_bodyOf_27 : decode cX8_bodyOf 27 = .ok (.arraylength, 1) := by decide +kernel
theorem dX8_bodyOf_28 : decode cX8_bodyOf 28 = .ok (.iconst 1, 1) := by decide +kernel
theorem dX8_bodyOf_29 : decode cX8_bodyOf 29 = .ok (.isub, 1) := by decide +kernel
theorem dX8_bodyOf_30 : decode cX8_bodyOf 30 = .ok (.invokestatic 58, 3) := by decide +kernel
theorem dX8_bodyOf_33 : decode cX8_bodyOf 33 = .ok (.ifCond .eq 19, 3) := by decide +kernel
theorem dX8_bodyOf_36 : decode cX8_bodyOf 36 = .ok (.getstatic 55, 3) := by decide +kernel
theorem dX8_bodyOf_39 : decode cX8_bodyOf 39 = .ok (.iload 4, 2) := by decide +kernel
theorem dX8_bodyOf_41 : decode cX8_bodyOf 41 = .ok (.iaload, 1) := by decide +kernel
theorem dX8_bodyOf_42 : decode cX8_bodyOf 42 = .ok (.ifCond .eq 10, 3) := by decide +kernel
theorem dX8_bodyOf_45 : decode cX8_bodyOf 45 = .ok (.getstatic 55, 3) := by decide +kernel
theorem dX8_bodyOf_48 : decode cX8_bodyOf 48 = .ok (.iload 4, 2) := by decide +kernel
theorem dX8_bodyOf_50 : decode cX8_bodyOf 50 = .ok (.iaload, 1) := by decide +kernel
theorem dX8_bodyOf_51 : decode cX8_bodyOf 51 = .ok (.ireturn, 1) := by decide +kernel
theorem dX8_bodyOf_52 : decode cX8_bodyOf 52 = .ok (.iload_n 2, 1) := by decide +kernel
theorem dX8_bodyOf_53 : decode cX8_bodyOf 53 = .ok (.invokestatic 52, 3) := by decide +kernel
theorem dX8_bodyOf_56 : decode cX8_bodyOf 56 = .ok (.istore_n 2, 1) := by decide +kernel
theorem dX8_bodyOf_57 : decode cX8_bodyOf 57 = .ok (.iinc 3 1, 3) := by decide +kernel
theorem dX8_bodyOf_60 : decode cX8_bodyOf 60 = .ok (.goto (-56), 3) := by decide +kernel
theorem dX8_bodyOf_63 : decode cX8_bodyOf 63 = .ok (.iconst 0, 1) := by decide +kernel
theorem dX8_bodyOf_64 : decode cX8_bodyOf 64 = .ok (.ireturn, 1) := by decide +kernel
theorem dX9_init_0 : decode cX9_init 0 = .ok (.aload_n 0, 1) := by decide +kernel
theorem dX9_init_1 : decode cX9_init 1 = .ok (.invokespecial 1, 3) := by decide +kernel
theorem dX9_init_4 : decode cX9_init 4 = .ok (.aload_n 0, 1) := by decide +kernel
theorem dX9_init_5 : decode cX9_init 5 = .ok (.new 7, 3) := by decide +kernel
theorem dX9_init_8 : decode cX9_init 8 = .ok (.dup, 1) := by decide +kernel
theorem dX9_init_9 : decode cX9_init 9 = .ok (.invokespecial 9, 3) := by decide +kernel
theorem dX9_init_12 : decode cX9_init 12 = .ok (.putfield 10, 3) := by decide +kernel
theorem dX9_init_15 : decode cX9_init 15 = .ok (.aload_n 0, 1) := by decide +kernel
theorem dX9_init_16 : decode cX9_init 16 = .ok (.new 16, 3) := by decide +kernel
theorem dX9_init_19 : decode cX9_init 19 = .ok (.dup, 1) := by decide +kernel
theorem dX9_init_20 : decode cX9_init 20 = .ok (.iconst 0, 1) := by decide +kernel
theorem dX9_init_21 : decode cX9_init 21 = .ok (.invokespecial 18, 3) := by decide +kernel
theorem dX9_init_24 : decode cX9_init 24 = .ok (.putfield 21, 3) := by decide +kernel
theorem dX9_init_27 : decode cX9_init 27 = .ok (.aload_n 0, 1) := by decide +kernel
theorem dX9_init_28 : decode cX9_init 28 = .ok (.new 16, 3) := by decide +kernel
theorem dX9_init_31 : decode cX9_init 31 = .ok (.dup, 1) := by decide +kernel
theorem dX9_init_32 : decode cX9_init 32 = .ok (.iconst 1, 1) := by decide +kernel
theorem dX9_init_33 : decode cX9_init 33 = .ok (.invokespecial 18, 3) := by decide +kernel
theorem dX9_init_36 : decode cX9_init 36 = .ok (.putfield 25, 3) := by decide +kernel
theorem dX9_init_39 : decode cX9_init 39 = .ok (.aload_n 0, 1) := by decide +kernel
theorem dX9_init_40 : decode cX9_init 40 = .ok (.bipush 50, 2) := by decide +kernel
theorem dX9_init_42 : decode cX9_init 42 = .ok (.newarray .int, 2) := by decide +kernel
theorem dX9_init_44 : decode cX9_init 44 = .ok (.putfield 28, 3) := by decide +kernel
theorem dX9_init_47 : decode cX9_init 47 = .ok (.aload_n 0, 1) := by decide +kernel
theorem dX9_init_48 : decode cX9_init 48 = .ok (.iconst 0, 1) := by decide +kernel
theorem dX9_init_49 : decode cX9_init 49 = .ok (.putfield 32, 3) := by decide +kernel
theorem dX9_init_52 : decode cX9_init 52 = .ok (.aload_n 0, 1) := by decide +kernel
theorem dX9_init_53 : decode cX9_init 53 = .ok (.bipush 20, 2) := by decide +kernel
theorem dX9_init_55 : decode cX9_init 55 = .ok (.newarray .int, 2) := by decide +kernel
theorem dX9_init_57 : decode cX9_init 57 = .ok (.putfield 36, 3) := by decide +kernel
theorem dX9_init_60 : decode cX9_init 60 = .ok (.aload_n 0, 1) := by decide +kernel
theorem dX9_init_61 : decode cX9_init 61 = .ok (.iconst 0, 1) := by decide +kernel
theorem dX9_init_62 : decode cX9_init 62 = .ok (.putfield 39, 3) := by decide +kernel
theorem dX9_init_65 : decode cX9_init 65 = .ok (.aload_n 0, 1) := by decide +kernel
theorem dX9_init_66 : decode cX9_init 66 = .ok (.iconst 0, 1) := by decide +kernel
theorem dX9_init_67 : decode cX9_init 67 = .ok (.putfield 42, 3) := by decide +kernel
theorem dX9_init_70 : decode cX9_init 70 = .ok (.aload_n 0, 1) := by decide +kernel
theorem dX9_init_71 : decode cX9_init 71 = .ok (.iconst 0, 1) := by decide +kernel
theorem dX9_init_72 : decode cX9_init 72 = .ok (.putfield 45, 3) := by decide +kernel
theorem dX9_init_75 : decode cX9_init 75 = .ok (.aload_n 0, 1) := by decide +kernel
theorem dX9_init_76 : decode cX9_init 76 = .ok (.iconst 1, 1) := by decide +kernel
theorem dX9_init_77 : decode cX9_init 77 = .ok (.putfield 48, 3) := by decide +kernel
theorem dX9_init_80 : decode cX9_init 80 = .ok (.return_, 1) := by decide +kernel
theorem dX9_copyFrom_0 : decode cX9_copyFrom 0 = .ok (.aload_n 0, 1) := by decide +kernel
theorem dX9_copyFrom_1 : decode cX9_copyFrom 1 = .ok (.getfield 10, 3) := by decide +kernel
theorem dX9_copyFrom_4 : decode cX9_copyFrom 4 = .ok (.aload_n 1, 1) := by decide +kernel
theorem dX9_copyFrom_5 : decode cX9_copyFrom 5 = .ok (.getfield 10, 3) := by decide +kernel
theorem dX9_copyFrom_8 : decode cX9_copyFrom 8 = .ok (.invokevirtual 51, 3) := by decide +kernel
theorem dX9_copyFrom_11 : decode cX9_copyFrom 11 = .ok (.aload_n 0, 1) := by decide +kernel
theorem dX9_copyFrom_12 : decode cX9_copyFrom 12 = .ok (.getfield 21, 3) := by decide +kernel
theorem dX9_copyFrom_15 : decode cX9_copyFrom 15 = .ok (.aload_n 1, 1) := by decide +kernel
theorem dX9_copyFrom_16 : decode cX9_copyFrom 16 = .ok (.getfield 21, 3) := by decide +kernel
theorem dX9_copyFrom_19 : decode cX9_copyFrom 19 = .ok (.invokevirtual 55, 3) := by decide +kernel
theorem dX9_copyFrom_22 : decode cX9_copyFrom 22 = .ok (.aload_n 0, 1) := by decide +kernel
theorem dX9_copyFrom_23 : decode cX9_copyFrom 23 = .ok (.getfield 25, 3) := by decide +kernel
theorem dX9_copyFrom_26 : decode cX9_copyFrom 26 = .ok (.aload_n 1, 1) := by decide +kernel
theorem dX9_copyFrom_27 : decode cX9_copyFrom 27 = .ok (.getfield 25, 3) := by decide +kernel
theorem dX9_copyFrom_30 : decode cX9_copyFrom 30 = .ok (.invokevirtual 55, 3) := by decide +kernel
theorem dX9_copyFrom_33 : decode cX9_copyFrom 33 = .ok (.aload_n 1, 1) := by decide +kernel
theorem dX9_copyFrom_34 : decode cX9_copyFrom 34 = .ok (.getfield 28, 3) := by decide +kernel
theorem dX9_copyFrom_37 : decode cX9_copyFrom 37 = .ok (.iconst 0, 1) := by decide +kernel
theorem dX9_copyFrom_38 : decode cX9_copyFrom 38 = .ok (.aload_n 0, 1) := by decide +kernel
theorem dX9_copyFrom_39 : decode cX9_copyFrom 39 = .ok (.getfield 28, 3) := by decide +kernel
theorem dX9_copyFrom_42 : decode cX9_copyFrom 42 = .ok (.iconst 0, 1) := by decide +kernel
theorem dX9_copyFrom_43 : decode cX9_copyFrom 43 = .ok (.bipush 50, 2) := by decide +kernel
theorem dX9_copyFrom_45 : decode cX9_copyFrom 45 = .ok (.invokestatic 58, 3) := by decide +kernel
theorem dX9_copyFrom_48 : decode cX9_copyFrom 48 = .ok (.aload_n 0, 1) := by decide +kernel
theorem dX9_copyFrom_49 : decode cX9_copyFrom 49 = .ok (.aload_n 1, 1) := by decide +kernel
theorem dX9_copyFrom_50 : decode cX9_copyFrom 50 = .ok (.getfield 32, 3) := by decide +kernel
theorem dX9_copyFrom_53 : decode cX9_copyFrom 53 = .ok (.putfield 32, 3) := by decide +kernel
theorem dX9_copyFrom_56 : decode cX9_copyFrom 56 = .ok (.aload_n 1, 1) := by decide +kernel
theorem dX9_copyFrom_57 : decode cX9_copyFrom 57 = .ok (.getfield 36, 3) := by decide +kernel
theorem dX9_copyFrom_60 : decode cX9_copyFrom 60 = .ok (.iconst 0, 1) := by decide +kernel
theorem dX9_copyFrom_61 : decode cX9_copyFrom 61 = .ok (.aload_n 0, 1) := by decide +kernel
theorem dX9_copyFrom_62 : decode cX9_copyFrom 62 = .ok (.getfield 36, 3) := by decide +kernel
theorem dX9_copyFrom_65 : decode cX9_copyFrom 65 = .ok (.iconst 0, 1) := by decide +kernel
theorem dX9_copyFrom_66 : decode cX9_copyFrom 66 = .ok (.bipush 20, 2) := by decide +kernel
theorem dX9_copyFrom_68 : decode cX9_copyFrom 68 = .ok (.invokestatic 58, 3) := by decide +kernel
theorem dX9_copyFrom_71 : decode cX9_copyFrom 71 = .ok (.aload_n 0, 1) := by decide +kernel
theorem dX9_copyFrom_72 : decode cX9_copyFrom 72 = .ok (.aload_n 1, 1) := by decide +kernel
theorem dX9_copyFrom_73 : decode cX9_copyFrom 73 = .ok (.getfield 39, 3) := by decide +kernel
theorem dX9_copyFrom_76 : decode cX9_copyFrom 76 = .ok (.putfield 39, 3) := by decide +kernel
theorem dX9_copyFrom_79 : decode cX9_copyFrom 79 = .ok (.aload_n 0, 1) := by decide +kernel
theorem dX9_copyFrom_80 : decode cX9_copyFrom 80 = .ok (.aload_n 1, 1) := by decide +kernel
theorem dX9_copyFrom_81 : decode cX9_copyFrom 81 = .ok (.getfield 42, 3) := by decide +kernel
theorem dX9_copyFrom_84 : decode cX9_copyFrom 84 = .ok (.putfield 42, 3) := by decide +kernel
theorem dX9_copyFrom_87 : decode cX9_copyFrom 87 = .ok (.aload_n 0, 1) := by decide +kernel
theorem dX9_copyFrom_88 : decode cX9_copyFrom 88 = .ok (.aload_n 1, 1) := by decide +kernel
theorem dX9_copyFrom_89 : decode cX9_copyFrom 89 = .ok (.getfield 45, 3) := by decide +kernel
theorem dX9_copyFrom_92 : decode cX9_copyFrom 92 = .ok (.putfield 45, 3) := by decide +kernel
theorem dX9_copyFrom_95 : decode cX9_copyFrom 95 = .ok (.aload_n 0, 1) := by decide +kernel
theorem dX9_copyFrom_96 : decode cX9_copyFrom 96 = .ok (.aload_n 1, 1) := by decide +kernel
theorem dX9_copyFrom_97 : decode cX9_copyFrom 97 = .ok (.getfield 48, 3) := by decide +kernel
theorem dX9_copyFrom_100 : decode cX9_copyFrom 100 = .ok (.putfield 48, 3) := by decide +kernel
theorem dX9_copyFrom_103 : decode cX9_copyFrom 103 = .ok (.return_, 1) := by decide +kernel
theorem dX9_lawOf_0 : decode cX9_lawOf 0 = .ok (.iload_n 1, 1) := by decide +kernel
theorem dX9_lawOf_1 : decode cX9_lawOf 1 = .ok (.ifCond .ne 10, 3) := by decide +kernel
theorem dX9_lawOf_4 : decode cX9_lawOf 4 = .ok (.aload_n 0, 1) := by decide +kernel
theorem dX9_lawOf_5 : decode cX9_lawOf 5 = .ok (.getfield 21, 3) := by decide +kernel
theorem dX9_lawOf_8 : decode cX9_lawOf 8 = .ok (.goto 7, 3) := by decide +kernel
theorem dX9_lawOf_11 : decode cX9_lawOf 11 = .ok (.aload_n 0, 1) := by decide +kernel
theorem dX9_lawOf_12 : decode cX9_lawOf 12 = .ok (.getfield 25, 3) := by decide +kernel
theorem dX9_lawOf_15 : decode cX9_lawOf 15 = .ok (.areturn, 1) := by decide +kernel
theorem dX9_feedBytes_0 : decode cX9_feedBytes 0 = .ok (.iload_n 3, 1) := by decide +kernel
theorem dX9_feedBytes_1 : decode cX9_feedBytes 1 = .ok (.bipush 50, 2) := by decide +kernel
theorem dX9_feedBytes_3 : decode cX9_feedBytes 3 = .ok (.aload_n 0, 1) := by decide +kernel
theorem dX9_feedBytes_4 : decode cX9_feedBytes 4 = .ok (.getfield 32, 3) := by decide +kernel
theorem dX9_feedBytes_7 : decode cX9_feedBytes 7 = .ok (.isub, 1) := by decide +kernel
theorem dX9_feedBytes_8 : decode cX9_feedBytes 8 = .ok (.if_icmp .le 5, 3) := by decide +kernel
theorem dX9_feedBytes_11 : decode cX9_feedBytes 11 = .ok (.iconst 0, 1) := by decide +kernel
theorem dX9_feedBytes_12 : decode cX9_feedBytes 12 = .ok (.ireturn, 1) := by decide +kernel
theorem dX9_feedBytes_13 : decode cX9_feedBytes 13 = .ok (.iconst 0, 1) := by decide +kernel
theorem dX9_feedBytes_14 : decode cX9_feedBytes 14 = .ok (.istore 4, 2) := by decide +kernel
theorem dX9_feedBytes_16 : decode cX9_feedBytes 16 = .ok (.iload 4, 2) := by decide +kernel
theorem dX9_feedBytes_18 : decode cX9_feedBytes 18 = .ok (.iload_n 3, 1) := by decide +kernel
theorem dX9_feedBytes_19 : decode cX9_feedBytes 19 = .ok (.if_icmp .ge 40, 3) := by decide +kernel
theorem dX9_feedBytes_22 : decode cX9_feedBytes 22 = .ok (.aload_n 0, 1) := by decide +kernel
theorem dX9_feedBytes_23 : decode cX9_feedBytes 23 = .ok (.getfield 28, 3) := by decide +kernel
theorem dX9_feedBytes_26 : decode cX9_feedBytes 26 = .ok (.aload_n 0, 1) := by decide +kernel
theorem dX9_feedBytes_27 : decode cX9_feedBytes 27 = .ok (.getfield 32, 3) := by decide +kernel
theorem dX9_feedBytes_30 : decode cX9_feedBytes 30 = .ok (.lload_n 1, 1) := by decide +kernel
theorem dX9_feedBytes_31 : decode cX9_feedBytes 31 = .ok (.bipush 8, 2) := by decide +kernel
theorem dX9_feedBytes_33 : decode cX9_feedBytes 33 = .ok (.iload 4, 2) := by decide +kernel
theorem dX9_feedBytes_35 : decode cX9_feedBytes 35 = .ok (.imul, 1) := by decide +kernel
theorem dX9_feedBytes_36 : decode cX9_feedBytes 36 = .ok (.lushr, 1) := by decide +kernel
theorem dX9_feedBytes_37 : decode cX9_feedBytes 37 = .ok (.ldc2_w 64, 3) := by decide +kernel
theorem dX9_feedBytes_40 : decode cX9_feedBytes 40 = .ok (.land, 1) := by decide +kernel
theorem dX9_feedBytes_41 : decode cX9_feedBytes 41 = .ok (.l2i, 1) := by decide +kernel
theorem dX9_feedBytes_42 : decode cX9_feedBytes 42 = .ok (.iastore, 1) := by decide +kernel
theorem dX9_feedBytes_43 : decode cX9_feedBytes 43 = .ok (.aload_n 0, 1) := by decide +kernel
theorem dX9_feedBytes_44 : decode cX9_feedBytes 44 = .ok (.dup, 1) := by decide +kernel
theorem dX9_feedBytes_45 : decode cX9_feedBytes 45 = .ok (.getfield 32, 3) := by decide +kernel
theorem dX9_feedBytes_48 : decode cX9_feedBytes 48 = .ok (.iconst 1, 1) := by decide +kernel
theorem dX9_feedBytes_49 : decode cX9_feedBytes 49 = .ok (.iadd, 1) := by decide +kernel
theorem dX9_feedBytes_50 : decode cX9_feedBytes 50 = .ok (.putfield 32, 3) := by decide +kernel
theorem dX9_feedBytes_53 : decode cX9_feedBytes 53 = .ok (.iinc 4 1, 3) := by decide +kernel
theorem dX9_feedBytes_56 : decode cX9_feedBytes 56 = .ok (.goto (-40), 3) := by decide +kernel
theorem dX9_feedBytes_59 : decode cX9_feedBytes 59 = .ok (.iconst 1, 1) := by decide +kernel
theorem dX9_feedBytes_60 : decode cX9_feedBytes 60 = .ok (.ireturn, 1) := by decide +kernel
theorem dX9_addWaiting_0 : decode cX9_addWaiting 0 = .ok (.aload_n 0, 1) := by decide +kernel
theorem dX9_addWaiting_1 : decode cX9_addWaiting 1 = .ok (.getfield 39, 3) := by decide +kernel
theorem dX9_addWaiting_4 : decode cX9_addWaiting 4 = .ok (.bipush 20, 2) := by decide +kernel
theorem dX9_addWaiting_6 : decode cX9_addWaiting 6 = .ok (.if_icmp .lt 5, 3) := by decide +kernel
theorem dX9_addWaiting_9 : decode cX9_addWaiting 9 = .ok (.iconst 0, 1) := by decide +kernel
theorem dX9_addWaiting_10 : decode cX9_addWaiting 10 = .ok (.ireturn, 1) := by decide +kernel
theorem dX9_addWaiting_11 : decode cX9_addWaiting 11 = .ok (.aload_n 0, 1) := by decide +kernel
theorem dX9_addWaiting_12 : decode cX9_addWaiting 12 = .ok (.getfield 36, 3) := by decide +kernel
theorem dX9_addWaiting_15 : decode cX9_addWaiting 15 = .ok (.aload_n 0, 1) := by decide +kernel
theorem dX9_addWaiting_16 : decode cX9_addWaiting 16 = .ok (.getfield 39, 3) := by decide +kernel
theorem dX9_addWaiting_19 : decode cX9_addWaiting 19 = .ok (.iload_n 1, 1) := by decide +kernel
theorem dX9_addWaiting_20 : decode cX9_addWaiting 20 = .ok (.iastore, 1) := by decide +kernel
theorem dX9_addWaiting_21 : decode cX9_addWaiting 21 = .ok (.aload_n 0, 1) := by decide +kernel
theorem dX9_addWaiting_22 : decode cX9_addWaiting 22 = .ok (.dup, 1) := by decide +kernel
theorem dX9_addWaiting_23 : decode cX9_addWaiting 23 = .ok (.getfield 39, 3) := by decide +kernel
theorem dX9_addWaiting_26 : decode cX9_addWaiting 26 = .ok (.iconst 1, 1) := by decide +kernel
theorem dX9_addWaiting_27 : decode cX9_addWaiting 27 = .ok (.iadd, 1) := by decide +kernel
theorem dX9_addWaiting_28 : decode cX9_addWaiting 28 = .ok (.putfield 39, 3) := by decide +kernel
theorem dX9_addWaiting_31 : decode cX9_addWaiting 31 = .ok (.iconst 1, 1) := by decide +kernel
theorem dX9_addWaiting_32 : decode cX9_addWaiting 32 = .ok (.ireturn, 1) := by decide +kernel
theorem dX9_handCost_0 : decode cX9_handCost 0 = .ok (.iload_n 1, 1) := by decide +kernel
theorem dX9_handCost_1 : decode cX9_handCost 1 = .ok (.aload_n 0, 1) := by decide +kernel
theorem dX9_handCost_2 : decode cX9_handCost 2 = .ok (.getfield 10, 3) := by decide +kernel
theorem dX9_handCost_5 : decode cX9_handCost 5 = .ok (.getfield 66, 3) := by decide +kernel
theorem dX9_handCost_8 : decode cX9_handCost 8 = .ok (.invokestatic 69, 3) := by decide +kernel
theorem dX9_handCost_11 : decode cX9_handCost 11 = .ok (.istore_n 2, 1) := by decide +kernel
theorem dX9_handCost_12 : decode cX9_handCost 12 = .ok (.iload_n 1, 1) := by decide +kernel
theorem dX9_handCost_13 : decode cX9_handCost 13 = .ok (.aload_n 0, 1) := by decide +kernel
theorem dX9_handCost_14 : decode cX9_handCost 14 = .ok (.getfield 10, 3) := by decide +kernel
theorem dX9_handCost_17 : decode cX9_handCost 17 = .ok (.getfield 66, 3) := by decide +kernel
theorem dX9_handCost_20 : decode cX9_handCost 20 = .ok (.invokestatic 75, 3) := by decide +kernel
theorem dX9_handCost_23 : decode cX9_handCost 23 = .ok (.istore_n 3, 1) := by decide +kernel
theorem dX9_handCost_24 : decode cX9_handCost 24 = .ok (.aload_n 0, 1) := by decide +kernel
theorem dX9_handCost_25 : decode cX9_handCost 25 = .ok (.getfield 21, 3) := by decide +kernel
theorem dX9_handCost_28 : decode cX9_handCost 28 = .ok (.iload_n 2, 1) := by decide +kernel
theorem dX9_handCost_29 : decode cX9_handCost 29 = .ok (.iload_n 3, 1) := by decide +kernel
theorem dX9_handCost_30 : decode cX9_handCost 30 = .ok (.aload_n 0, 1) := by decide +kernel
theorem dX9_handCost_31 : decode cX9_handCost 31 = .ok (.getfield 10, 3) := by decide +kernel
theorem dX9_handCost_34 : decode cX9_handCost 34 = .ok (.getfield 78, 3) := by decide +kernel
theorem dX9_handCost_37 : decode cX9_handCost 37 = .ok (.iload_n 1, 1) := by decide +kernel
theorem dX9_handCost_38 : decode cX9_handCost 38 = .ok (.iaload, 1) := by decide +kernel
theorem dX9_handCost_39 : decode cX9_handCost 39 = .ok (.invokevirtual 81, 3) := by decide +kernel
theorem dX9_handCost_42 : decode cX9_handCost 42 = .ok (.ireturn, 1) := by decide +kernel
theorem dX9_handTurns_0 : decode cX9_handTurns 0 = .ok (.aload_n 0, 1) := by decide +kernel
theorem dX9_handTurns_1 : decode cX9_handTurns 1 = .ok (.getfield 10, 3) := by decide +kernel
theorem dX9_handTurns_4 : decode cX9_handTurns 4 = .ok (.iload_n 1, 1) := by decide +kernel
theorem dX9_handTurns_5 : decode cX9_handTurns 5 = .ok (.invokevirtual 85, 3) := by decide +kernel
theorem dX9_handTurns_8 : decode cX9_handTurns 8 = .ok (.ifCond .ne 5, 3) := by decide +kernel
theorem dX9_handTurns_11 : decode cX9_handTurns 11 = .ok (.iconst 0, 1) := by decide +kernel
theorem dX9_handTurns_12 : decode cX9_handTurns 12 = .ok (.ireturn, 1) := by decide +kernel
theorem dX9_handTurns_13 : decode cX9_handTurns 13 = .ok (.aload_n 0, 1) := by decide +kernel
theorem dX9_handTurns_14 : decode cX9_handTurns 14 = .ok (.aload_n 0, 1) := by decide +kernel
theorem dX9_handTurns_15 : decode cX9_handTurns 15 = .ok (.iload_n 1, 1) := by decide +kernel
theorem dX9_handTurns_16 : decode cX9_handTurns 16 = .ok (.invokevirtual 89, 3) := by decide +kernel
theorem dX9_handTurns_19 : decode cX9_handTurns 19 = .ok (.ineg, 1) := by decide +kernel
theorem dX9_handTurns_20 : decode cX9_handTurns 20 = .ok (.invokevirtual 93, 3) := by decide +kernel
theorem dX9_handTurns_23 : decode cX9_handTurns 23 = .ok (.aload_n 0, 1) := by decide +kernel
theorem dX9_handTurns_24 : decode cX9_handTurns 24 = .ok (.getfield 10, 3) := by decide +kernel
theorem dX9_handTurns_27 : decode cX9_handTurns 27 = .ok (.iload_n 1, 1) := by decide +kernel
theorem dX9_handTurns_28 : decode cX9_handTurns 28 = .ok (.invokevirtual 96, 3) := by decide +kernel
theorem dX9_handTurns_31 : decode cX9_handTurns 31 = .ok (.iconst 1, 1) := by decide +kernel
theorem dX9_handTurns_32 : decode cX9_handTurns 32 = .ok (.ireturn, 1) := by decide +kernel
theorem dX9_rayIn_0 : decode cX9_rayIn 0 = .ok (.aload_n 1, 1) := by decide +kernel
theorem dX9_rayIn_1 : decode cX9_rayIn 1 = .ok (.aload_n 0, 1) := by decide +kernel
theorem dX9_rayIn_2 : decode cX9_rayIn 2 = .ok (.getfield 10, 3) := by decide +kernel
theorem dX9_rayIn_5 : decode cX9_rayIn 5 = .ok (.iload_n 2, 1) := by decide +kernel
theorem dX9_rayIn_6 : decode cX9_rayIn 6 = .ok (.invokevirtual 99, 3) := by decide +kernel
theorem dX9_rayIn_9 : decode cX9_rayIn 9 = .ok (.istore_n 3, 1) := by decide +kernel
theorem dX9_rayIn_10 : decode cX9_rayIn 10 = .ok (.aload_n 0, 1) := by decide +kernel
theorem dX9_rayIn_11 : decode cX9_rayIn 11 = .ok (.aload_n 0, 1) := by decide +kernel
theorem dX9_rayIn_12 : decode cX9_rayIn 12 = .ok (.getfield 25, 3) := by decide +kernel
theorem dX9_rayIn_15 : decode cX9_rayIn 15 = .ok (.iload_n 2, 1) := by decide +kernel
theorem dX9_rayIn_16 : decode cX9_rayIn 16 = .ok (.iload_n 3, 1) := by decide +kernel
theorem dX9_rayIn_17 : decode cX9_rayIn 17 = .ok (.aload_n 1, 1) := by decide +kernel
theorem dX9_rayIn_18 : decode cX9_rayIn 18 = .ok (.getfield 105, 3) := by decide +kernel
theorem dX9_rayIn_21 : decode cX9_rayIn 21 = .ok (.invokevirtual 81, 3) := by decide +kernel
theorem dX9_rayIn_24 : decode cX9_rayIn 24 = .ok (.invokevirtual 93, 3) := by decide +kernel
theorem dX9_rayIn_27 : decode cX9_rayIn 27 = .ok (.iload_n 3, 1) := by decide +kernel
theorem dX9_rayIn_28 : decode cX9_rayIn 28 = .ok (.ireturn, 1) := by decide +kernel
theorem dX9_liveDay_0 : decode cX9_liveDay 0 = .ok (.aload_n 0, 1) := by decide +kernel
theorem dX9_liveDay_1 : decode cX9_liveDay 1 = .ok (.invokevirtual 108, 3) := by decide +kernel
theorem dX9_liveDay_4 : decode cX9_liveDay 4 = .ok (.aload_n 0, 1) := by decide +kernel
theorem dX9_liveDay_5 : decode cX9_liveDay 5 = .ok (.getfield 10, 3) := by decide +kernel
theorem dX9_liveDay_8 : decode cX9_liveDay 8 = .ok (.invokevirtual 112, 3) := by decide +kernel
theorem dX9_liveDay_11 : decode cX9_liveDay 11 = .ok (.invokestatic 75, 3) := by decide +kernel
theorem dX9_liveDay_14 : decode cX9_liveDay 14 = .ok (.istore_n 2, 1) := by decide +kernel
theorem dX9_liveDay_15 : decode cX9_liveDay 15 = .ok (.aload_n 0, 1) := by decide +kernel
theorem dX9_liveDay_16 : decode cX9_liveDay 16 = .ok (.invokevirtual 108, 3) := by decide +kernel
theorem dX9_liveDay_19 : decode cX9_liveDay 19 = .ok (.aload_n 0, 1) := by decide +kernel
theorem dX9_liveDay_20 : decode cX9_liveDay 20 = .ok (.getfield 10, 3) := by decide +kernel
theorem dX9_liveDay_23 : decode cX9_liveDay 23 = .ok (.invokevirtual 115, 3) := by decide +kernel
theorem dX9_liveDay_26 : decode cX9_liveDay 26 = .ok (.invokestatic 75, 3) := by decide +kernel
theorem dX9_liveDay_29 : decode cX9_liveDay 29 = .ok (.istore_n 3, 1) := by decide +kernel
theorem dX9_liveDay_30 : decode cX9_liveDay 30 = .ok (.aload_n 0, 1) := by decide +kernel
theorem dX9_liveDay_31 : decode cX9_liveDay 31 = .ok (.iload_n 2, 1) := by decide +kernel
theorem dX9_liveDay_32 : decode cX9_liveDay 32 = .ok (.invokevirtual 118, 3) := by decide +kernel
theorem dX9_liveDay_35 : decode cX9_liveDay 35 = .ok (.pop, 1) := by decide +kernel
theorem dX9_liveDay_36 : decode cX9_liveDay 36 = .ok (.aload_n 0, 1) := by decide +kernel
theorem dX9_liveDay_37 : decode cX9_liveDay 37 = .ok (.aload_n 1, 1) := by decide +kernel
theorem dX9_liveDay_38 : decode cX9_liveDay 38 = .ok (.iload_n 3, 1) := by decide +kernel
theorem dX9_liveDay_39 : decode cX9_liveDay 39 = .ok (.invokevirtual 121, 3) := by decide +kernel
theorem dX9_liveDay_42 : decode cX9_liveDay 42 = .ok (.pop, 1) := by decide +kernel
theorem dX9_liveDay_43 : decode cX9_liveDay 43 = .ok (.aload_n 0, 1) := by decide +kernel
theorem dX9_liveDay_44 : decode cX9_liveDay 44 = .ok (.dup, 1) := by decide +kernel
theorem dX9_liveDay_45 : decode cX9_liveDay 45 = .ok (.getfield 45, 3) := by decide +kernel
theorem dX9_liveDay_48 : decode cX9_liveDay 48 = .ok (.iconst 1, 1) := by decide +kernel
theorem dX9_liveDay_49 : decode cX9_liveDay 49 = .ok (.iadd, 1) := by decide +kernel
theorem dX9_liveDay_50 : decode cX9_liveDay 50 = .ok (.putfield 45, 3) := by decide +kernel
theorem dX9_liveDay_53 : decode cX9_liveDay 53 = .ok (.return_, 1) := by decide +kernel
theorem dX9_draw_0 : decode cX9_draw 0 = .ok (.aload_n 0, 1) := by decide +kernel
theorem dX9_draw_1 : decode cX9_draw 1 = .ok (.aload_n 0, 1) := by decide +kernel
theorem dX9_draw_2 : decode cX9_draw 2 = .ok (.getfield 48, 3) := by decide +kernel
theorem dX9_draw_5 : decode cX9_draw 5 = .ok (.ldc 125, 2) := by decide +kernel
theorem dX9_draw_7 : decode cX9_draw 7 = .ok (.imul, 1) := by decide +kernel
theorem dX9_draw_8 : decode cX9_draw 8 = .ok (.sipush 12345, 3) := by decide +kernel
theorem dX9_draw_11 : decode cX9_draw 11 = .ok (.iadd, 1) := by decide +kernel
theorem dX9_draw_12 : decode cX9_draw 12 = .ok (.putfield 48, 3) := by decide +kernel
theorem dX9_draw_15 : decode cX9_draw 15 = .ok (.aload_n 0, 1) := by decide +kernel
theorem dX9_draw_16 : decode cX9_draw 16 = .ok (.getfield 48, 3) := by decide +kernel
theorem dX9_draw_19 : decode cX9_draw 19 = .ok (.bipush 8, 2) := by decide +kernel
theorem dX9_draw_21 : decode cX9_draw 21 = .ok (.iushr, 1) := by decide +kernel
theorem dX9_draw_22 : decode cX9_draw 22 = .ok (.ireturn, 1) := by decide +kernel
theorem dX9_earn_0 : decode cX9_earn 0 = .ok (.aload_n 0, 1) := by decide +kernel
theorem dX9_earn_1 : decode cX9_earn 1 = .ok (.aload_n 0, 1) := by decide +kernel
theorem dX9_earn_2 : decode cX9_earn 2 = .ok (.getfield 42, 3) := by decide +kernel
theorem dX9_earn_5 : decode cX9_earn 5 = .ok (.iload_n 1, 1) := by decide +kernel
theorem dX9_earn_6 : decode cX9_earn 6 = .ok (.iadd, 1) := by decide +kernel
theorem dX9_earn_7 : decode cX9_earn 7 = .ok (.ldc 126, 2) := by decide +kernel
theorem dX9_earn_9 : decode cX9_earn 9 = .ok (.ldc 127, 2) := by decide +kernel
theorem dX9_earn_11 : decode cX9_earn 11 = .ok (.invokestatic 128, 3) := by decide +kernel
theorem dX9_earn_14 : decode cX9_earn 14 = .ok (.putfield 42, 3) := by decide +kernel
theorem dX9_earn_17 : decode cX9_earn 17 = .ok (.return_, 1) := by decide +kernel
theorem dJ6_bitCount_0f7a4_0 : decode cJ6_bitCount_0f7a4 0 = .ok (.iload_n 0, 1) := by decide +kernel
theorem dJ6_bitCount_0f7a4_1 : decode cJ6_bitCount_0f7a4 1 = .ok (.iload_n 0, 1) := by decide +kernel
theorem dJ6_bitCount_0f7a4_2 : decode cJ6_bitCount_0f7a4 2 = .ok (.iconst 1, 1) := by decide +kernel
theorem dJ6_bitCount_0f7a4_3 : decode cJ6_bitCount_0f7a4 3 = .ok (.iushr, 1) := by decide +kernel
theorem dJ6_bitCount_0f7a4_4 : decode cJ6_bitCount_0f7a4 4 = .ok (.ldc_w 265, 3) := by decide +kernel
theorem dJ6_bitCount_0f7a4_7 : decode cJ6_bitCount_0f7a4 7 = .ok (.iand, 1) := by decide +kernel
theorem dJ6_bitCount_0f7a4_8 : decode cJ6_bitCount_0f7a4 8 = .ok (.isub, 1) := by decide +kernel
theorem dJ6_bitCount_0f7a4_9 : decode cJ6_bitCount_0f7a4 9 = .ok (.istore_n 0, 1) := by decide +kernel
theorem dJ6_bitCount_0f7a4_10 : decode cJ6_bitCount_0f7a4 10 = .ok (.iload_n 0, 1) := by decide +kernel
theorem dJ6_bitCount_0f7a4_11 : decode cJ6_bitCount_0f7a4 11 = .ok (.ldc_w 266, 3) := by decide +kernel
theorem dJ6_bitCount_0f7a4_14 : decode cJ6_bitCount_0f7a4 14 = .ok (.iand, 1) := by decide +kernel
theorem dJ6_bitCount_0f7a4_15 : decode cJ6_bitCount_0f7a4 15 = .ok (.iload_n 0, 1) := by decide +kernel
theorem dJ6_bitCount_0f7a4_16 : decode cJ6_bitCount_0f7a4 16 = .ok (.iconst 2, 1) := by decide +kernel
theorem dJ6_bitCount_0f7a4_17 : decode cJ6_bitCount_0f7a4 17 = .ok (.iushr, 1) := by decide +kernel
theorem dJ6_bitCount_0f7a4_18 : decode cJ6_bitCount_0f7a4 18 = .ok (.ldc_w 266, 3) := by decide +kernel
theorem dJ6_bitCount_0f7a4_21 : decode cJ6_bitCount_0f7a4 21 = .ok (.iand, 1) := by decide +kernel
theorem dJ6_bitCount_0f7a4_22 : decode cJ6_bitCount_0f7a4 22 = .ok (.iadd, 1) := by decide +kernel
theorem dJ6_bitCount_0f7a4_23 : decode cJ6_bitCount_0f7a4 23 = .ok (.istore_n 0, 1) := by decide +kernel
theorem dJ6_bitCount_0f7a4_24 : decode cJ6_bitCount_0f7a4 24 = .ok (.iload_n 0, 1) := by decide +kernel
theorem dJ6_bitCount_0f7a4_25 : decode cJ6_bitCount_0f7a4 25 = .ok (.iload_n 0, 1) := by decide +kernel
theorem dJ6_bitCount_0f7a4_26 : decode cJ6_bitCount_0f7a4 26 = .ok (.iconst 4, 1) := by decide +kernel
theorem dJ6_bitCount_0f7a4_27 : decode cJ6_bitCount_0f7a4 27 = .ok (.iushr, 1) := by decide +kernel
theorem dJ6_bitCount_0f7a4_28 : decode cJ6_bitCount_0f7a4 28 = .ok (.iadd, 1) := by decide +kernel
theorem dJ6_bitCount_0f7a4_29 : decode cJ6_bitCount_0f7a4 29 = .ok (.ldc_w 267, 3) := by decide +kernel
theorem dJ6_bitCount_0f7a4_32 : decode cJ6_bitCount_0f7a4 32 = .ok (.iand, 1) := by decide +kernel
theorem dJ6_bitCount_0f7a4_33 : decode cJ6_bitCount_0f7a4 33 = .ok (.istore_n 0, 1) := by decide +kernel
theorem dJ6_bitCount_0f7a4_34 : decode cJ6_bitCount_0f7a4 34 = .ok (.iload_n 0, 1) := by decide +kernel
theorem dJ6_bitCount_0f7a4_35 : decode cJ6_bitCount_0f7a4 35 = .ok (.iload_n 0, 1) := by decide +kernel
theorem dJ6_bitCount_0f7a4_36 : decode cJ6_bitCount_0f7a4 36 = .ok (.bipush 8, 2) := by decide +kernel
theorem dJ6_bitCount_0f7a4_38 : decode cJ6_bitCount_0f7a4 38 = .ok (.iushr, 1) := by decide +kernel
theorem dJ6_bitCount_0f7a4_39 : decode cJ6_bitCount_0f7a4 39 = .ok (.iadd, 1) := by decide +kernel
theorem dJ6_bitCount_0f7a4_40 : decode cJ6_bitCount_0f7a4 40 = .ok (.istore_n 0, 1) := by decide +kernel
theorem dJ6_bitCount_0f7a4_41 : decode cJ6_bitCount_0f7a4 41 = .ok (.iload_n 0, 1) := by decide +kernel
theorem dJ6_bitCount_0f7a4_42 : decode cJ6_bitCount_0f7a4 42 = .ok (.iload_n 0, 1) := by decide +kernel
theorem dJ6_bitCount_0f7a4_43 : decode cJ6_bitCount_0f7a4 43 = .ok (.bipush 16, 2) := by decide +kernel
theorem dJ6_bitCount_0f7a4_45 : decode cJ6_bitCount_0f7a4 45 = .ok (.iushr, 1) := by decide +kernel
theorem dJ6_bitCount_0f7a4_46 : decode cJ6_bitCount_0f7a4 46 = .ok (.iadd, 1) := by decide +kernel
theorem dJ6_bitCount_0f7a4_47 : decode cJ6_bitCount_0f7a4 47 = .ok (.istore_n 0, 1) := by decide +kernel
theorem dJ6_bitCount_0f7a4_48 : decode cJ6_bitCount_0f7a4 48 = .ok (.iload_n 0, 1) := by decide +kernel
theorem dJ6_bitCount_0f7a4_49 : decode cJ6_bitCount_0f7a4 49 = .ok (.bipush 63, 2) := by decide +kernel
theorem dJ6_bitCount_0f7a4_51 : decode cJ6_bitCount_0f7a4 51 = .ok (.iand, 1) := by decide +kernel
theorem dJ6_bitCount_0f7a4_52 : decode cJ6_bitCount_0f7a4 52 = .ok (.ireturn, 1) := by decide +kernel
theorem dJ9_max_7cf53_0 : decode cJ9_max_7cf53 0 = .ok (.iload_n 0, 1) := by decide +kernel
theorem dJ9_max_7cf53_1 : decode cJ9_max_7cf53 1 = .ok (.iload_n 1, 1) := by decide +kernel
theorem dJ9_max_7cf53_2 : decode cJ9_max_7cf53 2 = .ok (.if_icmp .lt 7, 3) := by decide +kernel
theorem dJ9_max_7cf53_5 : decode cJ9_max_7cf53 5 = .ok (.iload_n 0, 1) := by decide +kernel
theorem dJ9_max_7cf53_6 : decode cJ9_max_7cf53 6 = .ok (.goto 4, 3) := by decide +kernel
theorem dJ9_max_7cf53_9 : decode cJ9_max_7cf53 9 = .ok (.iload_n 1, 1) := by decide +kernel
theorem dJ9_max_7cf53_10 : decode cJ9_max_7cf53 10 = .ok (.ireturn, 1) := by decide +kernel
theorem dJ9_min_7cf53_0 : decode cJ9_min_7cf53 0 = .ok (.iload_n 0, 1) := by decide +kernel
theorem dJ9_min_7cf53_1 : decode cJ9_min_7cf53 1 = .ok (.iload_n 1, 1) := by decide +kernel
theorem dJ9_min_7cf53_2 : decode cJ9_min_7cf53 2 = .ok (.if_icmp .gt 7, 3) := by decide +kernel
theorem dJ9_min_7cf53_5 : decode cJ9_min_7cf53 5 = .ok (.iload_n 0, 1) := by decide +kernel
theorem dJ9_min_7cf53_6 : decode cJ9_min_7cf53 6 = .ok (.goto 4, 3) := by decide +kernel
theorem dJ9_min_7cf53_9 : decode cJ9_min_7cf53 9 = .ok (.iload_n 1, 1) := by decide +kernel
theorem dJ9_min_7cf53_10 : decode cJ9_min_7cf53 10 = .ok (.ireturn, 1) := by decide +kernel
theorem dJ7_fill_53178_0 : decode cJ7_fill_53178 0 = .ok (.iconst 0, 1) := by decide +kernel
theorem dJ7_fill_53178_1 : decode cJ7_fill_53178 1 = .ok (.istore_n 2, 1) := by decide +kernel
theorem dJ7_fill_53178_2 : decode cJ7_fill_53178 2 = .ok (.aload_n 0, 1) := by decide +kernel
theorem dJ7_fill_53178_3 : decode cJ7_fill_53178 3 = .ok (.arraylength, 1) := by decide +kernel
theorem dJ7_fill_53178_4 : decode cJ7_fill_53178 4 = .ok (.istore_n 3, 1) := by decide +kernel
theorem dJ7_fill_53178_5 : decode cJ7_fill_53178 5 = .ok (.iload_n 2, 1) := by decide +kernel
theorem dJ7_fill_53178_6 : decode cJ7_fill_53178 6 = .ok (.iload_n 3, 1) := by decide +kernel
theorem dJ7_fill_53178_7 : decode cJ7_fill_53178 7 = .ok (.if_icmp .ge 13, 3) := by decide +kernel
theorem dJ7_fill_53178_10 : decode cJ7_fill_53178 10 = .ok (.aload_n 0, 1) := by decide +kernel
theorem dJ7_fill_53178_11 : decode cJ7_fill_53178 11 = .ok (.iload_n 2, 1) := by decide +kernel
theorem dJ7_fill_53178_12 : decode cJ7_fill_53178 12 = .ok (.iload_n 1, 1) := by decide +kernel
theorem dJ7_fill_53178_13 : decode cJ7_fill_53178 13 = .ok (.iastore, 1) := by decide +kernel
theorem dJ7_fill_53178_14 : decode cJ7_fill_53178 14 = .ok (.iinc 2 1, 3) := by decide +kernel
theorem dJ7_fill_53178_17 : decode cJ7_fill_53178 17 = .ok (.goto (-12), 3) := by decide +kernel
theorem dJ7_fill_53178_20 : decode cJ7_fill_53178 20 = .ok (.return_, 1) := by decide +kernel

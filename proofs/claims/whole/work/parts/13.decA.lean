theorem dX0_init_0 : decode cX0_init 0 = .ok (.aload_n 0, 1) := by decide +kernel
theorem dX0_init_1 : decode cX0_init 1 = .ok (.invokespecial 3, 3) := by decide +kernel
theorem dX0_init_4 : decode cX0_init 4 = .ok (.aload_n 0, 1) := by decide +kernel
theorem dX0_init_5 : decode cX0_init 5 = .ok (.new 9, 3) := by decide +kernel
theorem dX0_init_8 : decode cX0_init 8 = .ok (.dup, 1) := by decide +kernel
theorem dX0_init_9 : decode cX0_init 9 = .ok (.invokespecial 11, 3) := by decide +kernel
theorem dX0_init_12 : decode cX0_init 12 = .ok (.putfield 12, 3) := by decide +kernel
theorem dX0_init_15 : decode cX0_init 15 = .ok (.aload_n 0, 1) := by decide +kernel
theorem dX0_init_16 : decode cX0_init 16 = .ok (.bipush 12, 2) := by decide +kernel
theorem dX0_init_18 : decode cX0_init 18 = .ok (.newarray .int, 2) := by decide +kernel
theorem dX0_init_20 : decode cX0_init 20 = .ok (.putfield 18, 3) := by decide +kernel
theorem dX0_init_23 : decode cX0_init 23 = .ok (.aload_n 0, 1) := by decide +kernel
theorem dX0_init_24 : decode cX0_init 24 = .ok (.bipush 12, 2) := by decide +kernel
theorem dX0_init_26 : decode cX0_init 26 = .ok (.newarray .long, 2) := by decide +kernel
theorem dX0_init_28 : decode cX0_init 28 = .ok (.putfield 22, 3) := by decide +kernel
theorem dX0_init_31 : decode cX0_init 31 = .ok (.aload_n 0, 1) := by decide +kernel
theorem dX0_init_32 : decode cX0_init 32 = .ok (.bipush 12, 2) := by decide +kernel
theorem dX0_init_34 : decode cX0_init 34 = .ok (.newarray .long, 2) := by decide +kernel
theorem dX0_init_36 : decode cX0_init 36 = .ok (.putfield 26, 3) := by decide +kernel
theorem dX0_init_39 : decode cX0_init 39 = .ok (.return_, 1) := by decide +kernel
theorem dX0_isSoWithout_0 : decode cX0_isSoWithout 0 = .ok (.aload_n 0, 1) := by decide +kernel
theorem dX0_isSoWithout_1 : decode cX0_isSoWithout 1 = .ok (.getfield 12, 3) := by decide +kernel
theorem dX0_isSoWithout_4 : decode cX0_isSoWithout 4 = .ok (.aload_n 2, 1) := by decide +kernel
theorem dX0_isSoWithout_5 : decode cX0_isSoWithout 5 = .ok (.getfield 29, 3) := by decide +kernel
theorem dX0_isSoWithout_8 : decode cX0_isSoWithout 8 = .ok (.invokevirtual 34, 3) := by decide +kernel
theorem dX0_isSoWithout_11 : decode cX0_isSoWithout 11 = .ok (.aload_n 0, 1) := by decide +kernel
theorem dX0_isSoWithout_12 : decode cX0_isSoWithout 12 = .ok (.aload_n 1, 1) := by decide +kernel
theorem dX0_isSoWithout_13 : decode cX0_isSoWithout 13 = .ok (.aload_n 2, 1) := by decide +kernel
theorem dX0_isSoWithout_14 : decode cX0_isSoWithout 14 = .ok (.getfield 38, 3) := by decide +kernel
theorem dX0_isSoWithout_17 : decode cX0_isSoWithout 17 = .ok (.iconst 0, 1) := by decide +kernel
theorem dX0_isSoWithout_18 : decode cX0_isSoWithout 18 = .ok (.invokevirtual 42, 3) := by decide +kernel
theorem dX0_isSoWithout_21 : decode cX0_isSoWithout 21 = .ok (.ireturn, 1) := by decide +kernel
theorem dX0_weighTears_0 : decode cX0_weighTears 0 = .ok (.aload_n 0, 1) := by decide +kernel
theorem dX0_weighTears_1 : decode cX0_weighTears 1 = .ok (.iconst 0, 1) := by decide +kernel
theorem dX0_weighTears_2 : decode cX0_weighTears 2 = .ok (.putfield 46, 3) := by decide +kernel
theorem dX0_weighTears_5 : decode cX0_weighTears 5 = .ok (.aload_n 0, 1) := by decide +kernel
theorem dX0_weighTears_6 : decode cX0_weighTears 6 = .ok (.iconst (-1), 1) := by decide +kernel
theorem dX0_weighTears_7 : decode cX0_weighTears 7 = .ok (.putfield 50, 3) := by decide +kernel
theorem dX0_weighTears_10 : decode cX0_weighTears 10 = .ok (.iconst 0, 1) := by decide +kernel
theorem dX0_weighTears_11 : decode cX0_weighTears 11 = .ok (.istore 4, 2) := by decide +kernel
theorem dX0_weighTears_13 : decode cX0_weighTears 13 = .ok (.iload 4, 2) := by decide +kernel
theorem dX0_weighTears_15 : decode cX0_weighTears 15 = .ok (.bipush 12, 2) := by decide +kernel
theorem dX0_weighTears_17 : decode cX0_weighTears 17 = .ok (.if_icmp .ge 25, 3) := by decide +kernel
theorem dX0_weighTears_20 : decode cX0_weighTears 20 = .ok (.aload_n 0, 1) := by decide +kernel
theorem dX0_weighTears_21 : decode cX0_weighTears 21 = .ok (.getfield 22, 3) := by decide +kernel
theorem dX0_weighTears_24 : decode cX0_weighTears 24 = .ok (.iload 4, 2) := by decide +kernel
theorem dX0_weighTears_26 : decode cX0_weighTears 26 = .ok (.lconst 0, 1) := by decide +kernel
theorem dX0_weighTears_27 : decode cX0_weighTears 27 = .ok (.lastore, 1) := by decide +kernel
theorem dX0_weighTears_28 : decode cX0_weighTears 28 = .ok (.aload_n 0, 1) := by decide +kernel
theorem dX0_weighTears_29 : decode cX0_weighTears 29 = .ok (.getfield 26, 3) := by decide +kernel
theorem dX0_weighTears_32 : decode cX0_weighTears 32 = .ok (.iload 4, 2) := by decide +kernel
theorem dX0_weighTears_34 : decode cX0_weighTears 34 = .ok (.lconst 0, 1) := by decide +kernel
theorem dX0_weighTears_35 : decode cX0_weighTears 35 = .ok (.lastore, 1) := by decide +kernel
theorem dX0_weighTears_36 : decode cX0_weighTears 36 = .ok (.iinc 4 1, 3) := by decide +kernel
theorem dX0_weighTears_39 : decode cX0_weighTears 39 = .ok (.goto (-26), 3) := by decide +kernel
theorem dX0_weighTears_42 : decode cX0_weighTears 42 = .ok (.iconst 0, 1) := by decide +kernel
theorem dX0_weighTears_43 : decode cX0_weighTears 43 = .ok (.istore 4, 2) := by decide +kernel
theorem dX0_weighTears_45 : decode cX0_weighTears 45 = .ok (.iload 4, 2) := by decide +kernel
theorem dX0_weighTears_47 : decode cX0_weighTears 47 = .ok (.aload_n 1, 1) := by decide +kernel
theorem dX0_weighTears_48 : decode cX0_weighTears 48 = .ok (.getfield 53, 3) := by decide +kernel
theorem dX0_weighTears_51 : decode cX0_weighTears 51 = .ok (.if_icmp .ge 140, 3) := by decide +kernel
theorem dX0_weighTears_54 : decode cX0_weighTears 54 = .ok (.aload_n 2, 1) := by decide +kernel
theorem dX0_weighTears_55 : decode cX0_weighTears 55 = .ok (.getfield 29, 3) := by decide +kernel
theorem dX0_weighTears_58 : decode cX0_weighTears 58 = .ok (.getfield 58, 3) := by decide +kernel
theorem dX0_weighTears_61 : decode cX0_weighTears 61 = .ok (.iload 4, 2) := by decide +kernel
theorem dX0_weighTears_63 : decode cX0_weighTears 63 = .ok (.iaload, 1) := by decide +kernel
theorem dX0_weighTears_64 : decode cX0_weighTears 64 = .ok (.bipush 50, 2) := by decide +kernel
theorem dX0_weighTears_66 : decode cX0_weighTears 66 = .ok (.invokestatic 61, 3) := by decide +kernel
theorem dX0_weighTears_69 : decode cX0_weighTears 69 = .ok (.istore 5, 2) := by decide +kernel
theorem dX0_weighTears_71 : decode cX0_weighTears 71 = .ok (.iconst 1, 1) := by decide +kernel
theorem dX0_weighTears_72 : decode cX0_weighTears 72 = .ok (.istore 6, 2) := by decide +kernel
theorem dX0_weighTears_74 : decode cX0_weighTears 74 = .ok (.iload 6, 2) := by decide +kernel
theorem dX0_weighTears_76 : decode cX0_weighTears 76 = .ok (.iload 5, 2) := by decide +kernel
theorem dX0_weighTears_78 : decode cX0_weighTears 78 = .ok (.if_icmp .gt 107, 3) := by decide +kernel
theorem dX0_weighTears_81 : decode cX0_weighTears 81 = .ok (.aload_n 0, 1) := by decide +kernel
theorem dX0_weighTears_82 : decode cX0_weighTears 82 = .ok (.getfield 12, 3) := by decide +kernel
theorem dX0_weighTears_85 : decode cX0_weighTears 85 = .ok (.aload_n 2, 1) := by decide +kernel
theorem dX0_weighTears_86 : decode cX0_weighTears 86 = .ok (.getfield 29, 3) := by decide +kernel
theorem dX0_weighTears_89 : decode cX0_weighTears 89 = .ok (.invokevirtual 34, 3) := by decide +kernel
theorem dX0_weighTears_92 : decode cX0_weighTears 92 = .ok (.aload_n 0, 1) := by decide +kernel
theorem dX0_weighTears_93 : decode cX0_weighTears 93 = .ok (.getfield 12, 3) := by decide +kernel
theorem dX0_weighTears_96 : decode cX0_weighTears 96 = .ok (.aload_n 1, 1) := by decide +kernel
theorem dX0_weighTears_97 : decode cX0_weighTears 97 = .ok (.iload 4, 2) := by decide +kernel
theorem dX0_weighTears_99 : decode cX0_weighTears 99 = .ok (.iload 6, 2) := by decide +kernel
theorem dX0_weighTears_101 : decode cX0_weighTears 101 = .ok (.invokevirtual 67, 3) := by decide +kernel
theorem dX0_weighTears_104 : decode cX0_weighTears 104 = .ok (.aload_n 0, 1) := by decide +kernel
theorem dX0_weighTears_105 : decode cX0_weighTears 105 = .ok (.aload_n 1, 1) := by decide +kernel
theorem dX0_weighTears_106 : decode cX0_weighTears 106 = .ok (.aload_n 2, 1) := by decide +kernel
theorem dX0_weighTears_107 : decode cX0_weighTears 107 = .ok (.getfield 38, 3) := by decide +kernel
theorem dX0_weighTears_110 : decode cX0_weighTears 110 = .ok (.iload_n 3, 1) := by decide +kernel
theorem dX0_weighTears_111 : decode cX0_weighTears 111 = .ok (.invokevirtual 42, 3) := by decide +kernel
theorem dX0_weighTears_114 : decode cX0_weighTears 114 = .ok (.ifCond .eq 65, 3) := by decide +kernel
theorem dX0_weighTears_117 : decode cX0_weighTears 117 = .ok (.iload 6, 2) := by decide +kernel
theorem dX0_weighTears_119 : decode cX0_weighTears 119 = .ok (.iload 5, 2) := by decide +kernel
theorem dX0_weighTears_121 : decode cX0_weighTears 121 = .ok (.if_icmp .ne 13, 3) := by decide +kernel
theorem dX0_weighTears_124 : decode cX0_weighTears 124 = .ok (.bipush 50, 2) := by decide +kernel
theorem dX0_weighTears_126 : decode cX0_weighTears 126 = .ok (.iload 5, 2) := by decide +kernel
theorem dX0_weighTears_128 : decode cX0_weighTears 128 = .ok (.isub, 1) := by decide +kernel
theorem dX0_weighTears_129 : decode cX0_weighTears 129 = .ok (.iconst 1, 1) := by decide +kernel
theorem dX0_weighTears_130 : decode cX0_weighTears 130 = .ok (.iadd, 1) := by decide +kernel
theorem dX0_weighTears_131 : decode cX0_weighTears 131 = .ok (.goto 4, 3) := by decide +kernel
theorem dX0_weighTears_134 : decode cX0_weighTears 134 = .ok (.iconst 1, 1) := by decide +kernel
theorem dX0_weighTears_135 : decode cX0_weighTears 135 = .ok (.istore 7, 2) := by decide +kernel
theorem dX0_weighTears_137 : decode cX0_weighTears 137 = .ok (.aload_n 0, 1) := by decide +kernel
theorem dX0_weighTears_138 : decode cX0_weighTears 138 = .ok (.aload_n 0, 1) := by decide +kernel
theorem dX0_weighTears_139 : decode cX0_weighTears 139 = .ok (.getfield 46, 3) := by decide +kernel
theorem dX0_weighTears_142 : decode cX0_weighTears 142 = .ok (.ifCond .ne 14, 3) := by decide +kernel
theorem dX0_weighTears_145 : decode cX0_weighTears 145 = .ok (.bipush 100, 2) := by decide +kernel
theorem dX0_weighTears_147 : decode cX0_weighTears 147 = .ok (.iload 4, 2) := by decide +kernel
theorem dX0_weighTears_149 : decode cX0_weighTears 149 = .ok (.imul, 1) := by decide +kernel
theorem dX0_weighTears_150 : decode cX0_weighTears 150 = .ok (.iload 6, 2) := by decide +kernel
theorem dX0_weighTears_152 : decode cX0_weighTears 152 = .ok (.iadd, 1) := by decide +kernel
theorem dX0_weighTears_153 : decode cX0_weighTears 153 = .ok (.goto 7, 3) := by decide +kernel
theorem dX0_weighTears_156 : decode cX0_weighTears 156 = .ok (.aload_n 0, 1) := by decide +kernel
theorem dX0_weighTears_157 : decode cX0_weighTears 157 = .ok (.getfield 50, 3) := by decide +kernel
theorem dX0_weighTears_160 : decode cX0_weighTears 160 = .ok (.putfield 50, 3) := by decide +kernel
theorem dX0_weighTears_163 : decode cX0_weighTears 163 = .ok (.aload_n 0, 1) := by decide +kernel
theorem dX0_weighTears_164 : decode cX0_weighTears 164 = .ok (.dup, 1) := by decide +kernel
theorem dX0_weighTears_165 : decode cX0_weighTears 165 = .ok (.getfield 46, 3) := by decide +kernel
theorem dX0_weighTears_168 : decode cX0_weighTears 168 = .ok (.iload 7, 2) := by decide +kernel
theorem dX0_weighTears_170 : decode cX0_weighTears 170 = .ok (.iadd, 1) := by decide +kernel
theorem dX0_weighTears_171 : decode cX0_weighTears 171 = .ok (.putfield 46, 3) := by decide +kernel
theorem dX0_weighTears_174 : decode cX0_weighTears 174 = .ok (.aload_n 0, 1) := by decide +kernel
theorem dX0_weighTears_175 : decode cX0_weighTears 175 = .ok (.aload_n 1, 1) := by decide +kernel
theorem dX0_weighTears_176 : decode cX0_weighTears 176 = .ok (.invokevirtual 71, 3) := by decide +kernel
theorem dX0_weighTears_179 : decode cX0_weighTears 179 = .ok (.iinc 6 1, 3) := by decide +kernel
theorem dX0_weighTears_182 : decode cX0_weighTears 182 = .ok (.goto (-108), 3) := by decide +kernel
theorem dX0_weighTears_185 : decode cX0_weighTears 185 = .ok (.iinc 4 1, 3) := by decide +kernel
theorem dX0_weighTears_188 : decode cX0_weighTears 188 = .ok (.goto (-143), 3) := by decide +kernel
theorem dX0_weighTears_191 : decode cX0_weighTears 191 = .ok (.return_, 1) := by decide +kernel
theorem dX0_isSo_0 : decode cX0_isSo 0 = .ok (.aload_n 2, 1) := by decide +kernel
theorem dX0_isSo_1 : decode cX0_isSo 1 = .ok (.invokevirtual 75, 3) := by decide +kernel
theorem dX0_isSo_4 : decode cX0_isSo 4 = .ok (.iload_n 3, 1) := by decide +kernel
theorem dX0_isSo_5 : decode cX0_isSo 5 = .ok (.invokestatic 81, 3) := by decide +kernel
theorem dX0_isSo_8 : decode cX0_isSo 8 = .ok (.istore 4, 2) := by decide +kernel
theorem dX0_isSo_10 : decode cX0_isSo 10 = .ok (.iconst 0, 1) := by decide +kernel
theorem dX0_isSo_11 : decode cX0_isSo 11 = .ok (.istore 5, 2) := by decide +kernel
theorem dX0_isSo_13 : decode cX0_isSo 13 = .ok (.iload 5, 2) := by decide +kernel
theorem dX0_isSo_15 : decode cX0_isSo 15 = .ok (.iload 4, 2) := by decide +kernel
theorem dX0_isSo_17 : decode cX0_isSo 17 = .ok (.if_icmp .gt 63, 3) := by decide +kernel
theorem dX0_isSo_20 : decode cX0_isSo 20 = .ok (.aload_n 2, 1) := by decide +kernel
theorem dX0_isSo_21 : decode cX0_isSo 21 = .ok (.aload_n 0, 1) := by decide +kernel
theorem dX0_isSo_22 : decode cX0_isSo 22 = .ok (.getfield 12, 3) := by decide +kernel
theorem dX0_isSo_25 : decode cX0_isSo 25 = .ok (.iload 5, 2) := by decide +kernel
theorem dX0_isSo_27 : decode cX0_isSo 27 = .ok (.invokevirtual 84, 3) := by decide +kernel
theorem dX0_isSo_30 : decode cX0_isSo 30 = .ok (.ifCond .ne 5, 3) := by decide +kernel
theorem dX0_isSo_33 : decode cX0_isSo 33 = .ok (.iconst 0, 1) := by decide +kernel
theorem dX0_isSo_34 : decode cX0_isSo 34 = .ok (.ireturn, 1) := by decide +kernel
theorem dX0_isSo_35 : decode cX0_isSo 35 = .ok (.iload 5, 2) := by decide +kernel
theorem dX0_isSo_37 : decode cX0_isSo 37 = .ok (.iload_n 3, 1) := by decide +kernel
theorem dX0_isSo_38 : decode cX0_isSo 38 = .ok (.if_icmp .ne 21, 3) := by decide +kernel
theorem dX0_isSo_41 : decode cX0_isSo 41 = .ok (.aload_n 0, 1) := by decide +kernel
theorem dX0_isSo_42 : decode cX0_isSo 42 = .ok (.getfield 12, 3) := by decide +kernel
theorem dX0_isSo_45 : decode cX0_isSo 45 = .ok (.getfield 58, 3) := by decide +kernel
theorem dX0_isSo_48 : decode cX0_isSo 48 = .ok (.iconst 0, 1) := by decide +kernel
theorem dX0_isSo_49 : decode cX0_isSo 49 = .ok (.aload_n 0, 1) := by decide +kernel
theorem dX0_isSo_50 : decode cX0_isSo 50 = .ok (.getfield 18, 3) := by decide +kernel
theorem dX0_isSo_53 : decode cX0_isSo 53 = .ok (.iconst 0, 1) := by decide +kernel
theorem dX0_isSo_54 : decode cX0_isSo 54 = .ok (.bipush 12, 2) := by decide +kernel
theorem dX0_isSo_56 : decode cX0_isSo 56 = .ok (.invokestatic 87, 3) := by decide +kernel
theorem dX0_isSo_59 : decode cX0_isSo 59 = .ok (.iload 5, 2) := by decide +kernel
theorem dX0_isSo_61 : decode cX0_isSo 61 = .ok (.iload 4, 2) := by decide +kernel
theorem dX0_isSo_63 : decode cX0_isSo 63 = .ok (.if_icmp .ge 11, 3) := by decide +kernel
theorem dX0_isSo_66 : decode cX0_isSo 66 = .ok (.aload_n 0, 1) := by decide +kernel
theorem dX0_isSo_67 : decode cX0_isSo 67 = .ok (.getfield 12, 3) := by decide +kernel
theorem dX0_isSo_70 : decode cX0_isSo 70 = .ok (.aload_n 1, 1) := by decide +kernel
theorem dX0_isSo_71 : decode cX0_isSo 71 = .ok (.invokevirtual 93, 3) := by decide +kernel
theorem dX0_isSo_74 : decode cX0_isSo 74 = .ok (.iinc 5 1, 3) := by decide +kernel
theorem dX0_isSo_77 : decode cX0_isSo 77 = .ok (.goto (-64), 3) := by decide +kernel
theorem dX0_isSo_80 : decode cX0_isSo 80 = .ok (.iconst 1, 1) := by decide +kernel
theorem dX0_isSo_81 : decode cX0_isSo 81 = .ok (.ireturn, 1) := by decide +kernel
theorem dX0_mark_0 : decode cX0_mark 0 = .ok (.iconst 0, 1) := by decide +kernel
theorem dX0_mark_1 : decode cX0_mark 1 = .ok (.istore_n 2, 1) := by decide +kernel
theorem dX0_mark_2 : decode cX0_mark 2 = .ok (.iload_n 2, 1) := by decide +kernel
theorem dX0_mark_3 : decode cX0_mark 3 = .ok (.aload_n 1, 1) := by decide +kernel
theorem dX0_mark_4 : decode cX0_mark 4 = .ok (.getfield 53, 3) := by decide +kernel
theorem dX0_mark_7 : decode cX0_mark 7 = .ok (.if_icmp .ge 60, 3) := by decide +kernel
theorem dX0_mark_10 : decode cX0_mark 10 = .ok (.aload_n 0, 1) := by decide +kernel
theorem dX0_mark_11 : decode cX0_mark 11 = .ok (.getfield 18, 3) := by decide +kernel
theorem dX0_mark_14 : decode cX0_mark 14 = .ok (.iload_n 2, 1) := by decide +kernel
theorem dX0_mark_15 : decode cX0_mark 15 = .ok (.iaload, 1) := by decide +kernel
theorem dX0_mark_16 : decode cX0_mark 16 = .ok (.bipush 64, 2) := by decide +kernel
theorem dX0_mark_18 : decode cX0_mark 18 = .ok (.if_icmp .ge 23, 3) := by decide +kernel
theorem dX0_mark_21 : decode cX0_mark 21 = .ok (.aload_n 0, 1) := by decide +kernel
theorem dX0_mark_22 : decode cX0_mark 22 = .ok (.getfield 22, 3) := by decide +kernel
theorem dX0_mark_25 : decode cX0_mark 25 = .ok (.iload_n 2, 1) := by decide +kernel
theorem dX0_mark_26 : decode cX0_mark 26 = .ok (.dup2, 1) := by decide +kernel
theorem dX0_mark_27 : decode cX0_mark 27 = .ok (.laload, 1) := by decide +kernel
theorem dX0_mark_28 : decode cX0_mark 28 = .ok (.lconst 1, 1) := by decide +kernel
theorem dX0_mark_29 : decode cX0_mark 29 = .ok (.aload_n 0, 1) := by decide +kernel
theorem dX0_mark_30 : decode cX0_mark 30 = .ok (.getfield 18, 3) := by decide +kernel
theorem dX0_mark_33 : decode cX0_mark 33 = .ok (.iload_n 2, 1) := by decide +kernel
theorem dX0_mark_34 : decode cX0_mark 34 = .ok (.iaload, 1) := by decide +kernel
theorem dX0_mark_35 : decode cX0_mark 35 = .ok (.lshl, 1) := by decide +kernel
theorem dX0_mark_36 : decode cX0_mark 36 = .ok (.lor, 1) := by decide +kernel
theorem dX0_mark_37 : decode cX0_mark 37 = .ok (.lastore, 1) := by decide +kernel
theorem dX0_mark_38 : decode cX0_mark 38 = .ok (.goto 23, 3) := by decide +kernel
theorem dX0_mark_41 : decode cX0_mark 41 = .ok (.aload_n 0, 1) := by decide +kernel
theorem dX0_mark_42 : decode cX0_mark 42 = .ok (.getfield 26, 3) := by decide +kernel
theorem dX0_mark_45 : decode cX0_mark 45 = .ok (.iload_n 2, 1) := by decide +kernel
theorem dX0_mark_46 : decode cX0_mark 46 = .ok (.dup2, 1) := by decide +kernel
theorem dX0_mark_47 : decode cX0_mark 47 = .ok (.laload, 1) := by decide +kernel
theorem dX0_mark_48 : decode cX0_mark 48 = .ok (.lconst 1, 1) := by decide +kernel
theorem dX0_mark_49 : decode cX0_mark 49 = .ok (.aload_n 0, 1) := by decide +kernel
theorem dX0_mark_50 : decode cX0_mark 50 = .ok (.getfield 18, 3) := by decide +kernel
theorem dX0_mark_53 : decode cX0_mark 53 = .ok (.iload_n 2, 1) := by decide +kernel
theorem dX0_mark_54 : decode cX0_mark 54 = .ok (.iaload, 1) := by decide +kernel
theorem dX0_mark_55 : decode cX0_mark 55 = .ok (.bipush 64, 2) := by decide +kernel
theorem dX0_mark_57 : decode cX0_mark 57 = .ok (.isub, 1) := by decide +kernel
theorem dX0_mark_58 : decode cX0_mark 58 = .ok (.lshl, 1) := by decide +kernel
theorem dX0_mark_59 : decode cX0_mark 59 = .ok (.lor, 1) := by decide +kernel
theorem dX0_mark_60 : decode cX0_mark 60 = .ok (.lastore, 1) := by decide +kernel
theorem dX0_mark_61 : decode cX0_mark 61 = .ok (.iinc 2 1, 3) := by decide +kernel
theorem dX0_mark_64 : decode cX0_mark 64 = .ok (.goto (-62), 3) := by decide +kernel
theorem dX0_mark_67 : decode cX0_mark 67 = .ok (.return_, 1) := by decide +kernel
theorem dX0_unlikeSeams_0 : decode cX0_unlikeSeams 0 = .ok (.aload_n 0, 1) := by decide +kernel
theorem dX0_unlikeSeams_1 : decode cX0_unlikeSeams 1 = .ok (.getfield 22, 3) := by decide +kernel
theorem dX0_unlikeSeams_4 : decode cX0_unlikeSeams 4 = .ok (.iload_n 1, 1) := by decide +kernel
theorem dX0_unlikeSeams_5 : decode cX0_unlikeSeams 5 = .ok (.laload, 1) := by decide +kernel
theorem dX0_unlikeSeams_6 : decode cX0_unlikeSeams 6 = .ok (.invokestatic 96, 3) := by decide +kernel
theorem dX0_unlikeSeams_9 : decode cX0_unlikeSeams 9 = .ok (.aload_n 0, 1) := by decide +kernel
theorem dX0_unlikeSeams_10 : decode cX0_unlikeSeams 10 = .ok (.getfield 26, 3) := by decide +kernel
theorem dX0_unlikeSeams_13 : decode cX0_unlikeSeams 13 = .ok (.iload_n 1, 1) := by decide +kernel
theorem dX0_unlikeSeams_14 : decode cX0_unlikeSeams 14 = .ok (.laload, 1) := by decide +kernel
theorem dX0_unlikeSeams_15 : decode cX0_unlikeSeams 15 = .ok (.invokestatic 96, 3) := by decide +kernel
theorem dX0_unlikeSeams_18 : decode cX0_unlikeSeams 18 = .ok (.iadd, 1) := by decide +kernel
theorem dX0_unlikeSeams_19 : decode cX0_unlikeSeams 19 = .ok (.ireturn, 1) := by decide +kernel
theorem dX1_init_0 : decode cX1_init 0 = .ok (.aload_n 0, 1) := by decide +kernel
theorem dX1_init_1 : decode cX1_init 1 = .ok (.invokespecial 3, 3) := by decide +kernel
theorem dX1_init_4 : decode cX1_init 4 = .ok (.aload_n 0, 1) := by decide +kernel
theorem dX1_init_5 : decode cX1_init 5 = .ok (.bipush 8, 2) := by decide +kernel
theorem dX1_init_7 : decode cX1_init 7 = .ok (.newarray .int, 2) := by decide +kernel
theorem dX1_init_9 : decode cX1_init 9 = .ok (.putfield 9, 3) := by decide +kernel
theorem dX1_init_12 : decode cX1_init 12 = .ok (.aload_n 0, 1) := by decide +kernel
theorem dX1_init_13 : decode cX1_init 13 = .ok (.bipush 8, 2) := by decide +kernel
theorem dX1_init_15 : decode cX1_init 15 = .ok (.newarray .int, 2) := by decide +kernel
theorem dX1_init_17 : decode cX1_init 17 = .ok (.putfield 15, 3) := by decide +kernel
theorem dX1_init_20 : decode cX1_init 20 = .ok (.aload_n 0, 1) := by decide +kernel
theorem dX1_init_21 : decode cX1_init 21 = .ok (.bipush 9, 2) := by decide +kernel
theorem dX1_init_23 : decode cX1_init 23 = .ok (.newarray .int, 2) := by decide +kernel
theorem dX1_init_25 : decode cX1_init 25 = .ok (.putfield 18, 3) := by decide +kernel
theorem dX1_init_28 : decode cX1_init 28 = .ok (.aload_n 0, 1) := by decide +kernel
theorem dX1_init_29 : decode cX1_init 29 = .ok (.bipush 10, 2) := by decide +kernel
theorem dX1_init_31 : decode cX1_init 31 = .ok (.newarray .int, 2) := by decide +kernel
theorem dX1_init_33 : decode cX1_init 33 = .ok (.putfield 21, 3) := by decide +kernel
theorem dX1_init_36 : decode cX1_init 36 = .ok (.aload_n 0, 1) := by decide +kernel
theorem dX1_init_37 : decode cX1_init 37 = .ok (.bipush 10, 2) := by decide +kernel
theorem dX1_init_39 : decode cX1_init 39 = .ok (.newarray .int, 2) := by decide +kernel
theorem dX1_init_41 : decode cX1_init 41 = .ok (.putfield 24, 3) := by decide +kernel
theorem dX1_init_44 : decode cX1_init 44 = .ok (.return_, 1) := by decide +kernel
theorem dX1_has_0 : decode cX1_has 0 = .ok (.iconst 0, 1) := by decide +kernel
theorem dX1_has_1 : decode cX1_has 1 = .ok (.istore_n 3, 1) := by decide +kernel
theorem dX1_has_2 : decode cX1_has 2 = .ok (.iload_n 3, 1) := by decide +kernel
theorem dX1_has_3 : decode cX1_has 3 = .ok (.aload_n 0, 1) := by decide +kernel
theorem dX1_has_4 : decode cX1_has 4 = .ok (.getfield 27, 3) := by decide +kernel
theorem dX1_has_7 : decode cX1_has 7 = .ok (.if_icmp .ge 31, 3) := by decide +kernel
theorem dX1_has_10 : decode cX1_has 10 = .ok (.aload_n 0, 1) := by decide +kernel
theorem dX1_has_11 : decode cX1_has 11 = .ok (.getfield 9, 3) := by decide +kernel
theorem dX1_has_14 : decode cX1_has 14 = .ok (.iload_n 3, 1) := by decide +kernel
theorem dX1_has_15 : decode cX1_has 15 = .ok (.iaload, 1) := by decide +kernel
theorem dX1_has_16 : decode cX1_has 16 = .ok (.iload_n 1, 1) := by decide +kernel
theorem dX1_has_17 : decode cX1_has 17 = .ok (.if_icmp .ne 15, 3) := by decide +kernel
theorem dX1_has_20 : decode cX1_has 20 = .ok (.aload_n 0, 1) := by decide +kernel
theorem dX1_has_21 : decode cX1_has 21 = .ok (.getfield 15, 3) := by decide +kernel
theorem dX1_has_24 : decode cX1_has 24 = .ok (.iload_n 3, 1) := by decide +kernel
theorem dX1_has_25 : decode cX1_has 25 = .ok (.iaload, 1) := by decide +kernel
theorem dX1_has_26 : decode cX1_has 26 = .ok (.iload_n 2, 1) := by decide +kernel
theorem dX1_has_27 : decode cX1_has 27 = .ok (.if_icmp .ne 5, 3) := by decide +kernel
theorem dX1_has_30 : decode cX1_has 30 = .ok (.iconst 1, 1) := by decide +kernel
theorem dX1_has_31 : decode cX1_has 31 = .ok (.ireturn, 1) := by decide +kernel
theorem dX1_has_32 : decode cX1_has 32 = .ok (.iinc 3 1, 3) := by decide +kernel
theorem dX1_has_35 : decode cX1_has 35 = .ok (.goto (-33), 3) := by decide +kernel
theorem dX1_has_38 : decode cX1_has 38 = .ok (.iconst 0, 1) := by decide +kernel
theorem dX1_has_39 : decode cX1_has 39 = .ok (.ireturn, 1) := by decide +kernel
theorem dX1_tie_0 : decode cX1_tie 0 = .ok (.aload_n 0, 1) := by decide +kernel
theorem dX1_tie_1 : decode cX1_tie 1 = .ok (.getfield 27, 3) := by decide +kernel
theorem dX1_tie_4 : decode cX1_tie 4 = .ok (.bipush 8, 2) := by decide +kernel
theorem dX1_tie_6 : decode cX1_tie 6 = .ok (.if_icmp .ge 33, 3) := by decide +kernel
theorem dX1_tie_9 : decode cX1_tie 9 = .ok (.aload_n 0, 1) := by decide +kernel
theorem dX1_tie_10 : decode cX1_tie 10 = .ok (.getfield 9, 3) := by decide +kernel
theorem dX1_tie_13 : decode cX1_tie 13 = .ok (.aload_n 0, 1) := by decide +kernel
theorem dX1_tie_14 : decode cX1_tie 14 = .ok (.getfield 27, 3) := by decide +kernel
theorem dX1_tie_17 : decode cX1_tie 17 = .ok (.iload_n 1, 1) := by decide +kernel
theorem dX1_tie_18 : decode cX1_tie 18 = .ok (.iastore, 1) := by decide +kernel
theorem dX1_tie_19 : decode cX1_tie 19 = .ok (.aload_n 0, 1) := by decide +kernel
theorem dX1_tie_20 : decode cX1_tie 20 = .ok (.getfield 15, 3) := by decide +kernel
theorem dX1_tie_23 : decode cX1_tie 23 = .ok (.aload_n 0, 1) := by decide +kernel
theorem dX1_tie_24 : decode cX1_tie 24 = .ok (.getfield 27, 3) := by decide +kernel
theorem dX1_tie_27 : decode cX1_tie 27 = .ok (.iload_n 2, 1) := by decide +kernel
theorem dX1_tie_28 : decode cX1_tie 28 = .ok (.iastore, 1) := by decide +kernel
theorem dX1_tie_29 : decode cX1_tie 29 = .ok (.aload_n 0, 1) := by decide +kernel
theorem dX1_tie_30 : decode cX1_tie 30 = .ok (.dup, 1) := by decide +kernel
theorem dX1_tie_31 : decode cX1_tie 31 = .ok (.getfield 27, 3) := by decide +kernel
theorem dX1_tie_34 : decode cX1_tie 34 = .ok (.iconst 1, 1) := by decide +kernel
theorem dX1_tie_35 : decode cX1_tie 35 = .ok (.iadd, 1) := by decide +kernel
theorem dX1_tie_36 : decode cX1_tie 36 = .ok (.putfield 27, 3) := by decide +kernel
theorem dX1_tie_39 : decode cX1_tie 39 = .ok (.return_, 1) := by decide +kernel
theorem dX1_untie_0 : decode cX1_untie 0 = .ok (.aload_n 0, 1) := by decide +kernel
theorem dX1_untie_1 : decode cX1_untie 1 = .ok (.iload_n 1, 1) := by decide +kernel
theorem dX1_untie_2 : decode cX1_untie 2 = .ok (.invokevirtual 31, 3) := by decide +kernel
theorem dX1_untie_5 : decode cX1_untie 5 = .ok (.istore_n 2, 1) := by decide +kernel
theorem dX1_untie_6 : decode cX1_untie 6 = .ok (.aload_n 0, 1) := by decide +kernel
theorem dX1_untie_7 : decode cX1_untie 7 = .ok (.getfield 21, 3) := by decide +kernel
theorem dX1_untie_10 : decode cX1_untie 10 = .ok (.iload_n 2, 1) := by decide +kernel
theorem dX1_untie_11 : decode cX1_untie 11 = .ok (.iconst 1, 1) := by decide +kernel
theorem dX1_untie_12 : decode cX1_untie 12 = .ok (.iastore, 1) := by decide +kernel
theorem dX1_untie_13 : decode cX1_untie 13 = .ok (.aload_n 0, 1) := by decide +kernel
theorem dX1_untie_14 : decode cX1_untie 14 = .ok (.getfield 24, 3) := by decide +kernel
theorem dX1_untie_17 : decode cX1_untie 17 = .ok (.iload_n 2, 1) := by decide +kernel
theorem dX1_untie_18 : decode cX1_untie 18 = .ok (.iconst 0, 1) := by decide +kernel
theorem dX1_untie_19 : decode cX1_untie 19 = .ok (.iastore, 1) := by decide +kernel
theorem dX1_untie_20 : decode cX1_untie 20 = .ok (.iload_n 2, 1) := by decide +kernel
theorem dX1_untie_21 : decode cX1_untie 21 = .ok (.iconst 1, 1) := by decide +kernel
theorem dX1_untie_22 : decode cX1_untie 22 = .ok (.isub, 1) := by decide +kernel
theorem dX1_untie_23 : decode cX1_untie 23 = .ok (.istore_n 3, 1) := by decide +kernel
theorem dX1_untie_24 : decode cX1_untie 24 = .ok (.iload_n 3, 1) := by decide +kernel
theorem dX1_untie_25 : decode cX1_untie 25 = .ok (.ifCond .lt 15, 3) := by decide +kernel
theorem dX1_untie_28 : decode cX1_untie 28 = .ok (.aload_n 0, 1) := by decide +kernel
theorem dX1_untie_29 : decode cX1_untie 29 = .ok (.iload_n 3, 1) := by decide +kernel
theorem dX1_untie_30 : decode cX1_untie 30 = .ok (.iload_n 2, 1) := by decide +kernel
theorem dX1_untie_31 : decode cX1_untie 31 = .ok (.invokevirtual 35, 3) := by decide +kernel
theorem dX1_untie_34 : decode cX1_untie 34 = .ok (.iinc 3 (-1), 3) := by decide +kernel
theorem dX1_untie_37 : decode cX1_untie 37 = .ok (.goto (-13), 3) := by decide +kernel
theorem dX1_untie_40 : decode cX1_untie 40 = .ok (.return_, 1) := by decide +kernel
theorem dX1_spell_0 : decode cX1_spell 0 = .ok (.iconst 1, 1) := by decide +kernel
theorem dX1_spell_1 : decode cX1_spell 1 = .ok (.istore_n 2, 1) := by decide +kernel
theorem dX1_spell_2 : decode cX1_spell 2 = .ok (.iload_n 1, 1) := by decide +kernel
theorem dX1_spell_3 : decode cX1_spell 3 = .ok (.bipush 10, 2) := by decide +kernel
theorem dX1_spell_5 : decode cX1_spell 5 = .ok (.idiv, 1) := by decide +kernel
theorem dX1_spell_6 : decode cX1_spell 6 = .ok (.istore_n 3, 1) := by decide +kernel
theorem dX1_spell_7 : decode cX1_spell 7 = .ok (.iload_n 3, 1) := by decide +kernel
theorem dX1_spell_8 : decode cX1_spell 8 = .ok (.ifCond .le 23, 3) := by decide +kernel
theorem dX1_spell_11 : decode cX1_spell 11 = .ok (.iload_n 2, 1) := by decide +kernel
theorem dX1_spell_12 : decode cX1_spell 12 = .ok (.aload_n 0, 1) := by decide +kernel
theorem dX1_spell_13 : decode cX1_spell 13 = .ok (.getfield 18, 3) := by decide +kernel
theorem dX1_spell_16 : decode cX1_spell 16 = .ok (.arraylength, 1) := by decide +kernel
theorem dX1_spell_17 : decode cX1_spell 17 = .ok (.if_icmp .ge 14, 3) := by decide +kernel
theorem dX1_spell_20 : decode cX1_spell 20 = .ok (.iinc 2 1, 3) := by decide +kernel
theorem dX1_spell_23 : decode cX1_spell 23 = .ok (.iload_n 3, 1) := by decide +kernel
theorem dX1_spell_24 : decode cX1_spell 24 = .ok (.bipush 10, 2) := by decide +kernel
theorem dX1_spell_26 : decode cX1_spell 26 = .ok (.idiv, 1) := by decide +kernel
theorem dX1_spell_27 : decode cX1_spell 27 = .ok (.istore_n 3, 1) := by decide +kernel
theorem dX1_spell_28 : decode cX1_spell 28 = .ok (.goto (-21), 3) := by decide +kernel
theorem dX1_spell_31 : decode cX1_spell 31 = .ok (.iload_n 1, 1) := by decide +kernel
theorem dX1_spell_32 : decode cX1_spell 32 = .ok (.istore_n 3, 1) := by decide +kernel
theorem dX1_spell_33 : decode cX1_spell 33 = .ok (.iload_n 2, 1) := by decide +kernel
theorem dX1_spell_34 : decode cX1_spell 34 = .ok (.iconst 1, 1) := by decide +kernel
theorem dX1_spell_35 : decode cX1_spell 35 = .ok (.isub, 1) := by decide +kernel
theorem dX1_spell_36 : decode cX1_spell 36 = .ok (.istore 4, 2) := by decide +kernel
theorem dX1_spell_38 : decode cX1_spell 38 = .ok (.iload 4, 2) := by decide +kernel
theorem dX1_spell_40 : decode cX1_spell 40 = .ok (.ifCond .lt 25, 3) := by decide +kernel
theorem dX1_spell_43 : decode cX1_spell 43 = .ok (.aload_n 0, 1) := by decide +kernel
theorem dX1_spell_44 : decode cX1_spell 44 = .ok (.getfield 18, 3) := by decide +kernel
theorem dX1_spell_47 : decode cX1_spell 47 = .ok (.iload 4, 2) := by decide +kernel
theorem dX1_spell_49 : decode cX1_spell 49 = .ok (.iload_n 3, 1) := by decide +kernel
theorem dX1_spell_50 : decode cX1_spell 50 = .ok (.bipush 10, 2) := by decide +kernel
theorem dX1_spell_52 : decode cX1_spell 52 = .ok (.irem, 1) := by decide +kernel
theorem dX1_spell_53 : decode cX1_spell 53 = .ok (.iastore, 1) := by decide +kernel
theorem dX1_spell_54 : decode cX1_spell 54 = .ok (.iload_n 3, 1) := by decide +kernel
theorem dX1_spell_55 : decode cX1_spell 55 = .ok (.bipush 10, 2) := by decide +kernel
theorem dX1_spell_57 : decode cX1_spell 57 = .ok (.idiv, 1) := by decide +kernel
theorem dX1_spell_58 : decode cX1_spell 58 = .ok (.istore_n 3, 1) := by decide +kernel
theorem dX1_spell_59 : decode cX1_spell 59 = .ok (.iinc 4 (-1), 3) := by decide +kernel
theorem dX1_spell_62 : decode cX1_spell 62 = .ok (.goto (-24), 3) := by decide +kernel
theorem dX1_spell_65 : decode cX1_spell 65 = .ok (.iload_n 2, 1) := by decide +kernel
theorem dX1_spell_66 : decode cX1_spell 66 = .ok (.ireturn, 1) := by decide +kernel
theorem dX1_untieFrom_0 : decode cX1_untieFrom 0 = .ok (.aload_n 0, 1) := by decide +kernel
theorem dX1_untieFrom_1 : decode cX1_untieFrom 1 = .ok (.getfield 21, 3) := by decide +kernel
theorem dX1_untieFrom_4 : decode cX1_untieFrom 4 = .ok (.iload_n 1, 1) := by decide +kernel
theorem dX1_untieFrom_5 : decode cX1_untieFrom 5 = .ok (.iconst 0, 1) := by decide +kernel
theorem dX1_untieFrom_6 : decode cX1_untieFrom 6 = .ok (.iastore, 1) := by decide +kernel
theorem dX1_untieFrom_7 : decode cX1_untieFrom 7 = .ok (.aload_n 0, 1) := by decide +kernel
theorem dX1_untieFrom_8 : decode cX1_untieFrom 8 = .ok (.getfield 24, 3) := by decide +kernel
theorem dX1_untieFrom_11 : decode cX1_untieFrom 11 = .ok (.iload_n 1, 1) := by decide +kernel
theorem dX1_untieFrom_12 : decode cX1_untieFrom 12 = .ok (.iconst (-1), 1) := by decide +kernel
theorem dX1_untieFrom_13 : decode cX1_untieFrom 13 = .ok (.iastore, 1) := by decide +kernel
theorem dX1_untieFrom_14 : decode cX1_untieFrom 14 = .ok (.iconst 0, 1) := by decide +kernel
theorem dX1_untieFrom_15 : decode cX1_untieFrom 15 = .ok (.istore_n 3, 1) := by decide +kernel
theorem dX1_untieFrom_16 : decode cX1_untieFrom 16 = .ok (.iload_n 1, 1) := by decide +kernel
theorem dX1_untieFrom_17 : decode cX1_untieFrom 17 = .ok (.iconst 1, 1) := by decide +kernel
theorem dX1_untieFrom_18 : decode cX1_untieFrom 18 = .ok (.iadd, 1) := by decide +kernel
theorem dX1_untieFrom_19 : decode cX1_untieFrom 19 = .ok (.istore 4, 2) := by decide +kernel
theorem dX1_untieFrom_21 : decode cX1_untieFrom 21 = .ok (.iload 4, 2) := by decide +kernel
theorem dX1_untieFrom_23 : decode cX1_untieFrom 23 = .ok (.iload_n 2, 1) := by decide +kernel
theorem dX1_untieFrom_24 : decode cX1_untieFrom 24 = .ok (.if_icmp .gt 113, 3) := by decide +kernel
theorem dX1_untieFrom_27 : decode cX1_untieFrom 27 = .ok (.iload 4, 2) := by decide +kernel
theorem dX1_untieFrom_29 : decode cX1_untieFrom 29 = .ok (.iload_n 1, 1) := by decide +kernel
theorem dX1_untieFrom_30 : decode cX1_untieFrom 30 = .ok (.iconst 4, 1) := by decide +kernel
theorem dX1_untieFrom_31 : decode cX1_untieFrom 31 = .ok (.iadd, 1) := by decide +kernel
theorem dX1_untieFrom_32 : decode cX1_untieFrom 32 = .ok (.if_icmp .gt 105, 3) := by decide +kernel
theorem dX1_untieFrom_35 : decode cX1_untieFrom 35 = .ok (.bipush 10, 2) := by decide +kernel
theorem dX1_untieFrom_37 : decode cX1_untieFrom 37 = .ok (.iload_n 3, 1) := by decide +kernel
theorem dX1_untieFrom_38 : decode cX1_untieFrom 38 = .ok (.imul, 1) := by decide +kernel
theorem dX1_untieFrom_39 : decode cX1_untieFrom 39 = .ok (.aload_n 0, 1) := by decide +kernel
theorem dX1_untieFrom_40 : decode cX1_untieFrom 40 = .ok (.getfield 18, 3) := by decide +kernel
theorem dX1_untieFrom_43 : decode cX1_untieFrom 43 = .ok (.iload 4, 2) := by decide +kernel
theorem dX1_untieFrom_45 : decode cX1_untieFrom 45 = .ok (.iconst 1, 1) := by decide +kernel
theorem dX1_untieFrom_46 : decode cX1_untieFrom 46 = .ok (.isub, 1) := by decide +kernel
theorem dX1_untieFrom_47 : decode cX1_untieFrom 47 = .ok (.iaload, 1) := by decide +kernel
theorem dX1_untieFrom_48 : decode cX1_untieFrom 48 = .ok (.iadd, 1) := by decide +kernel
theorem dX1_untieFrom_49 : decode cX1_untieFrom 49 = .ok (.istore_n 3, 1) := by decide +kernel
theorem dX1_untieFrom_50 : decode cX1_untieFrom 50 = .ok (.aload_n 0, 1) := by decide +kernel
theorem dX1_untieFrom_51 : decode cX1_untieFrom 51 = .ok (.getfield 21, 3) := by decide +kernel
theorem dX1_untieFrom_54 : decode cX1_untieFrom 54 = .ok (.iload 4, 2) := by decide +kernel
theorem dX1_untieFrom_56 : decode cX1_untieFrom 56 = .ok (.iaload, 1) := by decide +kernel
theorem dX1_untieFrom_57 : decode cX1_untieFrom 57 = .ok (.ifCond .le 74, 3) := by decide +kernel
theorem dX1_untieFrom_60 : decode cX1_untieFrom 60 = .ok (.aload_n 0, 1) := by decide +kernel
theorem dX1_untieFrom_61 : decode cX1_untieFrom 61 = .ok (.iload_n 3, 1) := by decide +kernel
theorem dX1_untieFrom_62 : decode cX1_untieFrom 62 = .ok (.iload 4, 2) := by decide +kernel
theorem dX1_untieFrom_64 : decode cX1_untieFrom 64 = .ok (.iload_n 1, 1) := by decide +kernel
theorem dX1_untieFrom_65 : decode cX1_untieFrom 65 = .ok (.isub, 1) := by decide +kernel
theorem dX1_untieFrom_66 : decode cX1_untieFrom 66 = .ok (.invokevirtual 39, 3) := by decide +kernel
theorem dX1_untieFrom_69 : decode cX1_untieFrom 69 = .ok (.ifCond .eq 62, 3) := by decide +kernel
theorem dX1_untieFrom_72 : decode cX1_untieFrom 72 = .ok (.aload_n 0, 1) := by decide +kernel
theorem dX1_untieFrom_73 : decode cX1_untieFrom 73 = .ok (.getfield 21, 3) := by decide +kernel
theorem dX1_untieFrom_76 : decode cX1_untieFrom 76 = .ok (.iload_n 1, 1) := by decide +kernel
theorem dX1_untieFrom_77 : decode cX1_untieFrom 77 = .ok (.dup2, 1) := by decide +kernel
theorem dX1_untieFrom_78 : decode cX1_untieFrom 78 = .ok (.iaload, 1) := by decide +kernel
theorem dX1_untieFrom_79 : decode cX1_untieFrom 79 = .ok (.aload_n 0, 1) := by decide +kernel
theorem dX1_untieFrom_80 : decode cX1_untieFrom 80 = .ok (.getfield 21, 3) := by decide +kernel
theorem dX1_untieFrom_83 : decode cX1_untieFrom 83 = .ok (.iload 4, 2) := by decide +kernel
theorem dX1_untieFrom_85 : decode cX1_untieFrom 85 = .ok (.iaload, 1) := by decide +kernel
theorem dX1_untieFrom_86 : decode cX1_untieFrom 86 = .ok (.iadd, 1) := by decide +kernel
theorem dX1_untieFrom_87 : decode cX1_untieFrom 87 = .ok (.iastore, 1) := by decide +kernel
theorem dX1_untieFrom_88 : decode cX1_untieFrom 88 = .ok (.aload_n 0, 1) := by decide +kernel
theorem dX1_untieFrom_89 : decode cX1_untieFrom 89 = .ok (.getfield 24, 3) := by decide +kernel
theorem dX1_untieFrom_92 : decode cX1_untieFrom 92 = .ok (.iload 4, 2) := by decide +kernel
theorem dX1_untieFrom_94 : decode cX1_untieFrom 94 = .ok (.iaload, 1) := by decide +kernel
theorem dX1_untieFrom_95 : decode cX1_untieFrom 95 = .ok (.iconst 1, 1) := by decide +kernel
theorem dX1_untieFrom_96 : decode cX1_untieFrom 96 = .ok (.iadd, 1) := by decide +kernel
theorem dX1_untieFrom_97 : decode cX1_untieFrom 97 = .ok (.istore 5, 2) := by decide +kernel
theorem dX1_untieFrom_99 : decode cX1_untieFrom 99 = .ok (.aload_n 0, 1) := by decide +kernel
theorem dX1_untieFrom_100 : decode cX1_untieFrom 100 = .ok (.getfield 24, 3) := by decide +kernel
theorem dX1_untieFrom_103 : decode cX1_untieFrom 103 = .ok (.iload_n 1, 1) := by decide +kernel
theorem dX1_untieFrom_104 : decode cX1_untieFrom 104 = .ok (.aload_n 0, 1) := by decide +kernel
theorem dX1_untieFrom_105 : decode cX1_untieFrom 105 = .ok (.getfield 24, 3) := by decide +kernel
theorem dX1_untieFrom_108 : decode cX1_untieFrom 108 = .ok (.iload_n 1, 1) := by decide +kernel
theorem dX1_untieFrom_109 : decode cX1_untieFrom 109 = .ok (.iaload, 1) := by decide +kernel
theorem dX1_untieFrom_110 : decode cX1_untieFrom 110 = .ok (.iconst (-1), 1) := by decide +kernel
theorem dX1_untieFrom_111 : decode cX1_untieFrom 111 = .ok (.if_icmp .ne 8, 3) := by decide +kernel
theorem dX1_untieFrom_114 : decode cX1_untieFrom 114 = .ok (.iload 5, 2) := by decide +kernel
theorem dX1_untieFrom_116 : decode cX1_untieFrom 116 = .ok (.goto 14, 3) := by decide +kernel
theorem dX1_untieFrom_119 : decode cX1_untieFrom 119 = .ok (.aload_n 0, 1) := by decide +kernel
theorem dX1_untieFrom_120 : decode cX1_untieFrom 120 = .ok (.getfield 24, 3) := by decide +kernel
theorem dX1_untieFrom_123 : decode cX1_untieFrom 123 = .ok (.iload_n 1, 1) := by decide +kernel
theorem dX1_untieFrom_124 : decode cX1_untieFrom 124 = .ok (.iaload, 1) := by decide +kernel
theorem dX1_untieFrom_125 : decode cX1_untieFrom 125 = .ok (.iload 5, 2) := by decide +kernel
theorem dX1_untieFrom_127 : decode cX1_untieFrom 127 = .ok (.invokestatic 43, 3) := by decide +kernel
theorem dX1_untieFrom_130 : decode cX1_untieFrom 130 = .ok (.iastore, 1) := by decide +kernel
theorem dX1_untieFrom_131 : decode cX1_untieFrom 131 = .ok (.iinc 4 1, 3) := by decide +kernel
theorem dX1_untieFrom_134 : decode cX1_untieFrom 134 = .ok (.goto (-113), 3) := by decide +kernel
theorem dX1_untieFrom_137 : decode cX1_untieFrom 137 = .ok (.return_, 1) := by decide +kernel
theorem dX2_init_0 : decode cX2_init 0 = .ok (.aload_n 0, 1) := by decide +kernel
theorem dX2_init_1 : decode cX2_init 1 = .ok (.invokespecial 3, 3) := by decide +kernel
theorem dX2_init_4 : decode cX2_init 4 = .ok (.aload_n 0, 1) := by decide +kernel
theorem dX2_init_5 : decode cX2_init 5 = .ok (.bipush 12, 2) := by decide +kernel
theorem dX2_init_7 : decode cX2_init 7 = .ok (.newarray .int, 2) := by decide +kernel
theorem dX2_init_9 : decode cX2_init 9 = .ok (.putfield 9, 3) := by decide +kernel
theorem dX2_init_12 : decode cX2_init 12 = .ok (.aload_n 0, 1) := by decide +kernel
theorem dX2_init_13 : decode cX2_init 13 = .ok (.bipush 12, 2) := by decide +kernel
theorem dX2_init_15 : decode cX2_init 15 = .ok (.newarray .int, 2) := by decide +kernel
theorem dX2_init_17 : decode cX2_init 17 = .ok (.putfield 15, 3) := by decide +kernel
theorem dX2_init_20 : decode cX2_init 20 = .ok (.aload_n 0, 1) := by decide +kernel
theorem dX2_init_21 : decode cX2_init 21 = .ok (.bipush 12, 2) := by decide +kernel
theorem dX2_init_23 : decode cX2_init 23 = .ok (.newarray .int, 2) := by decide +kernel
theorem dX2_init_25 : decode cX2_init 25 = .ok (.putfield 18, 3) := by decide +kernel
theorem dX2_init_28 : decode cX2_init 28 = .ok (.aload_n 0, 1) := by decide +kernel
theorem dX2_init_29 : decode cX2_init 29 = .ok (.bipush 6, 2) := by decide +kernel
theorem dX2_init_31 : decode cX2_init 31 = .ok (.newarray .int, 2) := by decide +kernel
theorem dX2_init_33 : decode cX2_init 33 = .ok (.putfield 21, 3) := by decide +kernel
theorem dX2_init_36 : decode cX2_init 36 = .ok (.aload_n 0, 1) := by decide +kernel
theorem dX2_init_37 : decode cX2_init 37 = .ok (.bipush 6, 2) := by decide +kernel
theorem dX2_init_39 : decode cX2_init 39 = .ok (.newarray .int, 2) := by decide +kernel
theorem dX2_init_41 : decode cX2_init 41 = .ok (.putfield 24, 3) := by decide +kernel
theorem dX2_init_44 : decode cX2_init 44 = .ok (.aload_n 0, 1) := by decide +kernel
theorem dX2_init_45 : decode cX2_init 45 = .ok (.bipush 12, 2) := by decide +kernel
theorem dX2_init_47 : decode cX2_init 47 = .ok (.newarray .int, 2) := by decide +kernel
theorem dX2_init_49 : decode cX2_init 49 = .ok (.putfield 27, 3) := by decide +kernel
theorem dX2_init_52 : decode cX2_init 52 = .ok (.return_, 1) := by decide +kernel
theorem dX2_putStretch_0 : decode cX2_putStretch 0 = .ok (.iload_n 1, 1) := by decide +kernel
theorem dX2_putStretch_1 : decode cX2_putStretch 1 = .ok (.ifCond .lt 31, 3) := by decide +kernel
theorem dX2_putStretch_4 : decode cX2_putStretch 4 = .ok (.iload_n 1, 1) := by decide +kernel
theorem dX2_putStretch_5 : decode cX2_putStretch 5 = .ok (.bipush 12, 2) := by decide +kernel
theorem dX2_putStretch_7 : decode cX2_putStretch 7 = .ok (.if_icmp .ge 25, 3) := by decide +kernel
theorem dX2_putStretch_10 : decode cX2_putStretch 10 = .ok (.aload_n 0, 1) := by decide +kernel
theorem dX2_putStretch_11 : decode cX2_putStretch 11 = .ok (.getfield 9, 3) := by decide +kernel
theorem dX2_putStretch_14 : decode cX2_putStretch 14 = .ok (.iload_n 1, 1) := by decide +kernel
theorem dX2_putStretch_15 : decode cX2_putStretch 15 = .ok (.iload_n 2, 1) := by decide +kernel
theorem dX2_putStretch_16 : decode cX2_putStretch 16 = .ok (.iastore, 1) := by decide +kernel
theorem dX2_putStretch_17 : decode cX2_putStretch 17 = .ok (.aload_n 0, 1) := by decide +kernel
theorem dX2_putStretch_18 : decode cX2_putStretch 18 = .ok (.getfield 15, 3) := by decide +kernel
theorem dX2_putStretch_21 : decode cX2_putStretch 21 = .ok (.iload_n 1, 1) := by decide +kernel
theorem dX2_putStretch_22 : decode cX2_putStretch 22 = .ok (.iload_n 3, 1) := by decide +kernel
theorem dX2_putStretch_23 : decode cX2_putStretch 23 = .ok (.iastore, 1) := by decide +kernel
theorem dX2_putStretch_24 : decode cX2_putStretch 24 = .ok (.aload_n 0, 1) := by decide +kernel
theorem dX2_putStretch_25 : decode cX2_putStretch 25 = .ok (.getfield 18, 3) := by decide +kernel
theorem dX2_putStretch_28 : decode cX2_putStretch 28 = .ok (.iload_n 1, 1) := by decide +kernel
theorem dX2_putStretch_29 : decode cX2_putStretch 29 = .ok (.iload 4, 2) := by decide +kernel
theorem dX2_putStretch_31 : decode cX2_putStretch 31 = .ok (.iastore, 1) := by decide +kernel
theorem dX2_putStretch_32 : decode cX2_putStretch 32 = .ok (.return_, 1) := by decide +kernel
theorem dX2_putWoman_0 : decode cX2_putWoman 0 = .ok (.iload_n 1, 1) := by decide +kernel
theorem dX2_putWoman_1 : decode cX2_putWoman 1 = .ok (.ifCond .lt 23, 3) := by decide +kernel
theorem dX2_putWoman_4 : decode cX2_putWoman 4 = .ok (.iload_n 1, 1) := by decide +kernel
theorem dX2_putWoman_5 : decode cX2_putWoman 5 = .ok (.bipush 6, 2) := by decide +kernel
theorem dX2_putWoman_7 : decode cX2_putWoman 7 = .ok (.if_icmp .ge 17, 3) := by decide +kernel
theorem dX2_putWoman_10 : decode cX2_putWoman 10 = .ok (.aload_n 0, 1) := by decide +kernel
theorem dX2_putWoman_11 : decode cX2_putWoman 11 = .ok (.getfield 21, 3) := by decide +kernel
theorem dX2_putWoman_14 : decode cX2_putWoman 14 = .ok (.iload_n 1, 1) := by decide +kernel
theorem dX2_putWoman_15 : decode cX2_putWoman 15 = .ok (.iload_n 2, 1) := by decide +kernel
theorem dX2_putWoman_16 : decode cX2_putWoman 16 = .ok (.iastore, 1) := by decide +kernel
theorem dX2_putWoman_17 : decode cX2_putWoman 17 = .ok (.aload_n 0, 1) := by decide +kernel
theorem dX2_putWoman_18 : decode cX2_putWoman 18 = .ok (.getfield 24, 3) := by decide +kernel
theorem dX2_putWoman_21 : decode cX2_putWoman 21 = .ok (.iload_n 1, 1) := by decide +kernel
theorem dX2_putWoman_22 : decode cX2_putWoman 22 = .ok (.iload_n 3, 1) := by decide +kernel
theorem dX2_putWoman_23 : decode cX2_putWoman 23 = .ok (.iastore, 1) := by decide +kernel
theorem dX2_putWoman_24 : decode cX2_putWoman 24 = .ok (.return_, 1) := by decide +kernel
theorem dX2_copyFrom_0 : decode cX2_copyFrom 0 = .ok (.aload_n 0, 1) := by decide +kernel
theorem dX2_copyFrom_1 : decode cX2_copyFrom 1 = .ok (.aload_n 1, 1) := by decide +kernel
theorem dX2_copyFrom_2 : decode cX2_copyFrom 2 = .ok (.getfield 30, 3) := by decide +kernel
theorem dX2_copyFrom_5 : decode cX2_copyFrom 5 = .ok (.putfield 30, 3) := by decide +kernel
theorem dX2_copyFrom_8 : decode cX2_copyFrom 8 = .ok (.aload_n 1, 1) := by decide +kernel
theorem dX2_copyFrom_9 : decode cX2_copyFrom 9 = .ok (.getfield 9, 3) := by decide +kernel
theorem dX2_copyFrom_12 : decode cX2_copyFrom 12 = .ok (.iconst 0, 1) := by decide +kernel
theorem dX2_copyFrom_13 : decode cX2_copyFrom 13 = .ok (.aload_n 0, 1) := by decide +kernel
theorem dX2_copyFrom_14 : decode cX2_copyFrom 14 = .ok (.getfield 9, 3) := by decide +kernel
theorem dX2_copyFrom_17 : decode cX2_copyFrom 17 = .ok (.iconst 0, 1) := by decide +kernel
theorem dX2_copyFrom_18 : decode cX2_copyFrom 18 = .ok (.bipush 12, 2) := by decide +kernel
theorem dX2_copyFrom_20 : decode cX2_copyFrom 20 = .ok (.invokestatic 34, 3) := by decide +kernel
theorem dX2_copyFrom_23 : decode cX2_copyFrom 23 = .ok (.aload_n 1, 1) := by decide +kernel
theorem dX2_copyFrom_24 : decode cX2_copyFrom 24 = .ok (.getfield 15, 3) := by decide +kernel
theorem dX2_copyFrom_27 : decode cX2_copyFrom 27 = .ok (.iconst 0, 1) := by decide +kernel
theorem dX2_copyFrom_28 : decode cX2_copyFrom 28 = .ok (.aload_n 0, 1) := by decide +kernel
theorem dX2_copyFrom_29 : decode cX2_copyFrom 29 = .ok (.getfield 15, 3) := by decide +kernel
theorem dX2_copyFrom_32 : decode cX2_copyFrom 32 = .ok (.iconst 0, 1) := by decide +kernel
theorem dX2_copyFrom_33 : decode cX2_copyFrom 33 = .ok (.bipush 12, 2) := by decide +kernel
theorem dX2_copyFrom_35 : decode cX2_copyFrom 35 = .ok (.invokestatic 34, 3) := by decide +kernel
theorem dX2_copyFrom_38 : decode cX2_copyFrom 38 = .ok (.aload_n 1, 1) := by decide +kernel
theorem dX2_copyFrom_39 : decode cX2_copyFrom 39 = .ok (.getfield 18, 3) := by decide +kernel
theorem dX2_copyFrom_42 : decode cX2_copyFrom 42 = .ok (.iconst 0, 1) := by decide +kernel
theorem dX2_copyFrom_43 : decode cX2_copyFrom 43 = .ok (.aload_n 0, 1) := by decide +kernel
theorem dX2_copyFrom_44 : decode cX2_copyFrom 44 = .ok (.getfield 18, 3) := by decide +kernel
theorem dX2_copyFrom_47 : decode cX2_copyFrom 47 = .ok (.iconst 0, 1) := by decide +kernel
theorem dX2_copyFrom_48 : decode cX2_copyFrom 48 = .ok (.bipush 12, 2) := by decide +kernel
theorem dX2_copyFrom_50 : decode cX2_copyFrom 50 = .ok (.invokestatic 34, 3) := by decide +kernel
theorem dX2_copyFrom_53 : decode cX2_copyFrom 53 = .ok (.aload_n 1, 1) := by decide +kernel
theorem dX2_copyFrom_54 : decode cX2_copyFrom 54 = .ok (.getfield 21, 3) := by decide +kernel
theorem dX2_copyFrom_57 : decode cX2_copyFrom 57 = .ok (.iconst 0, 1) := by decide +kernel
theorem dX2_copyFrom_58 : decode cX2_copyFrom 58 = .ok (.aload_n 0, 1) := by decide +kernel
theorem dX2_copyFrom_59 : decode cX2_copyFrom 59 = .ok (.getfield 21, 3) := by decide +kernel
theorem dX2_copyFrom_62 : decode cX2_copyFrom 62 = .ok (.iconst 0, 1) := by decide +kernel
theorem dX2_copyFrom_63 : decode cX2_copyFrom 63 = .ok (.bipush 6, 2) := by decide +kernel
theorem dX2_copyFrom_65 : decode cX2_copyFrom 65 = .ok (.invokestatic 34, 3) := by decide +kernel
theorem dX2_copyFrom_68 : decode cX2_copyFrom 68 = .ok (.aload_n 1, 1) := by decide +kernel
theorem dX2_copyFrom_69 : decode cX2_copyFrom 69 = .ok (.getfield 24, 3) := by decide +kernel
theorem dX2_copyFrom_72 : decode cX2_copyFrom 72 = .ok (.iconst 0, 1) := by decide +kernel
theorem dX2_copyFrom_73 : decode cX2_copyFrom 73 = .ok (.aload_n 0, 1) := by decide +kernel
theorem dX2_copyFrom_74 : decode cX2_copyFrom 74 = .ok (.getfield 24, 3) := by decide +kernel
theorem dX2_copyFrom_77 : decode cX2_copyFrom 77 = .ok (.iconst 0, 1) := by decide +kernel
theorem dX2_copyFrom_78 : decode cX2_copyFrom 78 = .ok (.bipush 6, 2) := by decide +kernel
theorem dX2_copyFrom_80 : decode cX2_copyFrom 80 = .ok (.invokestatic 34, 3) := by decide +kernel
theorem dX2_copyFrom_83 : decode cX2_copyFrom 83 = .ok (.return_, 1) := by decide +kernel
theorem dX2_writeTo_0 : decode cX2_writeTo 0 = .ok (.iload_n 2, 1) := by decide +kernel
theorem dX2_writeTo_1 : decode cX2_writeTo 1 = .ok (.ifCond .lt 12, 3) := by decide +kernel
theorem dX2_writeTo_4 : decode cX2_writeTo 4 = .ok (.iload_n 2, 1) := by decide +kernel
theorem dX2_writeTo_5 : decode cX2_writeTo 5 = .ok (.bipush 49, 2) := by decide +kernel
theorem dX2_writeTo_7 : decode cX2_writeTo 7 = .ok (.iadd, 1) := by decide +kernel
theorem dX2_writeTo_8 : decode cX2_writeTo 8 = .ok (.aload_n 1, 1) := by decide +kernel
theorem dX2_writeTo_9 : decode cX2_writeTo 9 = .ok (.arraylength, 1) := by decide +kernel
theorem dX2_writeTo_10 : decode cX2_writeTo 10 = .ok (.if_icmp .le 4, 3) := by decide +kernel
theorem dX2_writeTo_13 : decode cX2_writeTo 13 = .ok (.return_, 1) := by decide +kernel
theorem dX2_writeTo_14 : decode cX2_writeTo 14 = .ok (.aload_n 1, 1) := by decide +kernel
theorem dX2_writeTo_15 : decode cX2_writeTo 15 = .ok (.iload_n 2, 1) := by decide +kernel
theorem dX2_writeTo_16 : decode cX2_writeTo 16 = .ok (.aload_n 0, 1) := by decide +kernel
theorem dX2_writeTo_17 : decode cX2_writeTo 17 = .ok (.getfield 30, 3) := by decide +kernel
theorem dX2_writeTo_20 : decode cX2_writeTo 20 = .ok (.iastore, 1) := by decide +kernel
theorem dX2_writeTo_21 : decode cX2_writeTo 21 = .ok (.iload_n 2, 1) := by decide +kernel
theorem dX2_writeTo_22 : decode cX2_writeTo 22 = .ok (.iconst 1, 1) := by decide +kernel
theorem dX2_writeTo_23 : decode cX2_writeTo 23 = .ok (.iadd, 1) := by decide +kernel
theorem dX2_writeTo_24 : decode cX2_writeTo 24 = .ok (.istore_n 3, 1) := by decide +kernel
theorem dX2_writeTo_25 : decode cX2_writeTo 25 = .ok (.aload_n 0, 1) := by decide +kernel
theorem dX2_writeTo_26 : decode cX2_writeTo 26 = .ok (.getfield 9, 3) := by decide +kernel
theorem dX2_writeTo_29 : decode cX2_writeTo 29 = .ok (.iconst 0, 1) := by decide +kernel
theorem dX2_writeTo_30 : decode cX2_writeTo 30 = .ok (.aload_n 1, 1) := by decide +kernel
theorem dX2_writeTo_31 : decode cX2_writeTo 31 = .ok (.iload_n 3, 1) := by decide +kernel
theorem dX2_writeTo_32 : decode cX2_writeTo 32 = .ok (.bipush 12, 2) := by decide +kernel
theorem dX2_writeTo_34 : decode cX2_writeTo 34 = .ok (.invokestatic 34, 3) := by decide +kernel
theorem dX2_writeTo_37 : decode cX2_writeTo 37 = .ok (.aload_n 0, 1) := by decide +kernel
theorem dX2_writeTo_38 : decode cX2_writeTo 38 = .ok (.getfield 15, 3) := by decide +kernel
theorem dX2_writeTo_41 : decode cX2_writeTo 41 = .ok (.iconst 0, 1) := by decide +kernel
theorem dX2_writeTo_42 : decode cX2_writeTo 42 = .ok (.aload_n 1, 1) := by decide +kernel
theorem dX2_writeTo_43 : decode cX2_writeTo 43 = .ok (.iload_n 3, 1) := by decide +kernel
theorem dX2_writeTo_44 : decode cX2_writeTo 44 = .ok (.bipush 12, 2) := by decide +kernel
theorem dX2_writeTo_46 : decode cX2_writeTo 46 = .ok (.iadd, 1) := by decide +kernel
theorem dX2_writeTo_47 : decode cX2_writeTo 47 = .ok (.bipush 12, 2) := by decide +kernel
theorem dX2_writeTo_49 : decode cX2_writeTo 49 = .ok (.invokestatic 34, 3) := by decide +kernel
theorem dX2_writeTo_52 : decode cX2_writeTo 52 = .ok (.aload_n 0, 1) := by decide +kernel
theorem dX2_writeTo_53 : decode cX2_writeTo 53 = .ok (.getfield 18, 3) := by decide +kernel
theorem dX2_writeTo_56 : decode cX2_writeTo 56 = .ok (.iconst 0, 1) := by decide +kernel
theorem dX2_writeTo_57 : decode cX2_writeTo 57 = .ok (.aload_n 1, 1) := by decide +kernel
theorem dX2_writeTo_58 : decode cX2_writeTo 58 = .ok (.iload_n 3, 1) := by decide +kernel
theorem dX2_writeTo_59 : decode cX2_writeTo 59 = .ok (.bipush 24, 2) := by decide +kernel
theorem dX2_writeTo_61 : decode cX2_writeTo 61 = .ok (.iadd, 1) := by decide +kernel
theorem dX2_writeTo_62 : decode cX2_writeTo 62 = .ok (.bipush 12, 2) := by decide +kernel
theorem dX2_writeTo_64 : decode cX2_writeTo 64 = .ok (.invokestatic 34, 3) := by decide +kernel
theorem dX2_writeTo_67 : decode cX2_writeTo 67 = .ok (.iinc 3 36, 3) := by decide +kernel
theorem dX2_writeTo_70 : decode cX2_writeTo 70 = .ok (.aload_n 0, 1) := by decide +kernel
theorem dX2_writeTo_71 : decode cX2_writeTo 71 = .ok (.getfield 21, 3) := by decide +kernel
theorem dX2_writeTo_74 : decode cX2_writeTo 74 = .ok (.iconst 0, 1) := by decide +kernel
theorem dX2_writeTo_75 : decode cX2_writeTo 75 = .ok (.aload_n 1, 1) := by decide +kernel
theorem dX2_writeTo_76 : decode cX2_writeTo 76 = .ok (.iload_n 3, 1) := by decide +kernel
theorem dX2_writeTo_77 : decode cX2_writeTo 77 = .ok (.bipush 6, 2) := by decide +kernel
theorem dX2_writeTo_79 : decode cX2_writeTo 79 = .ok (.invokestatic 34, 3) := by decide +kernel
theorem dX2_writeTo_82 : decode cX2_writeTo 82 = .ok (.aload_n 0, 1) := by decide +kernel
theorem dX2_writeTo_83 : decode cX2_writeTo 83 = .ok (.getfield 24, 3) := by decide +kernel
theorem dX2_writeTo_86 : decode cX2_writeTo 86 = .ok (.iconst 0, 1) := by decide +kernel
theorem dX2_writeTo_87 : decode cX2_writeTo 87 = .ok (.aload_n 1, 1) := by decide +kernel
theorem dX2_writeTo_88 : decode cX2_writeTo 88 = .ok (.iload_n 3, 1) := by decide +kernel
theorem dX2_writeTo_89 : decode cX2_writeTo 89 = .ok (.bipush 6, 2) := by decide +kernel
theorem dX2_writeTo_91 : decode cX2_writeTo 91 = .ok (.iadd, 1) := by decide +kernel
theorem dX2_writeTo_92 : decode cX2_writeTo 92 = .ok (.bipush 6, 2) := by decide +kernel
theorem dX2_writeTo_94 : decode cX2_writeTo 94 = .ok (.invokestatic 34, 3) := by decide +kernel
theorem dX2_writeTo_97 : decode cX2_writeTo 97 = .ok (.return_, 1) := by decide +kernel
theorem dX2_readFrom_0 : decode cX2_readFrom 0 = .ok (.iload_n 2, 1) := by decide +kernel
theorem dX2_readFrom_1 : decode cX2_readFrom 1 = .ok (.ifCond .lt 12, 3) := by decide +kernel
theorem dX2_readFrom_4 : decode cX2_readFrom 4 = .ok (.iload_n 2, 1) := by decide +kernel
theorem dX2_readFrom_5 : decode cX2_readFrom 5 = .ok (.bipush 49, 2) := by decide +kernel
theorem dX2_readFrom_7 : decode cX2_readFrom 7 = .ok (.iadd, 1) := by decide +kernel
theorem dX2_readFrom_8 : decode cX2_readFrom 8 = .ok (.aload_n 1, 1) := by decide +kernel
theorem dX2_readFrom_9 : decode cX2_readFrom 9 = .ok (.arraylength, 1) := by decide +kernel
theorem dX2_readFrom_10 : decode cX2_readFrom 10 = .ok (.if_icmp .le 4, 3) := by decide +kernel
theorem dX2_readFrom_13 : decode cX2_readFrom 13 = .ok (.return_, 1) := by decide +kernel
theorem dX2_readFrom_14 : decode cX2_readFrom 14 = .ok (.aload_n 0, 1) := by decide +kernel
theorem dX2_readFrom_15 : decode cX2_readFrom 15 = .ok (.aload_n 1, 1) := by decide +kernel
theorem dX2_readFrom_16 : decode cX2_readFrom 16 = .ok (.iload_n 2, 1) := by decide +kernel
theorem dX2_readFrom_17 : decode cX2_readFrom 17 = .ok (.iaload, 1) := by decide +kernel
theorem dX2_readFrom_18 : decode cX2_readFrom 18 = .ok (.putfield 30, 3) := by decide +kernel
theorem dX2_readFrom_21 : decode cX2_readFrom 21 = .ok (.iload_n 2, 1) := by decide +kernel
theorem dX2_readFrom_22 : decode cX2_readFrom 22 = .ok (.iconst 1, 1) := by decide +kernel
theorem dX2_readFrom_23 : decode cX2_readFrom 23 = .ok (.iadd, 1) := by decide +kernel
theorem dX2_readFrom_24 : decode cX2_readFrom 24 = .ok (.istore_n 3, 1) := by decide +kernel
theorem dX2_readFrom_25 : decode cX2_readFrom 25 = .ok (.aload_n 1, 1) := by decide +kernel
theorem dX2_readFrom_26 : decode cX2_readFrom 26 = .ok (.iload_n 3, 1) := by decide +kernel
theorem dX2_readFrom_27 : decode cX2_readFrom 27 = .ok (.aload_n 0, 1) := by decide +kernel
theorem dX2_readFrom_28 : decode cX2_readFrom 28 = .ok (.getfield 9, 3) := by decide +kernel
theorem dX2_readFrom_31 : decode cX2_readFrom 31 = .ok (.iconst 0, 1) := by decide +kernel
theorem dX2_readFrom_32 : decode cX2_readFrom 32 = .ok (.bipush 12, 2) := by decide +kernel
theorem dX2_readFrom_34 : decode cX2_readFrom 34 = .ok (.invokestatic 34, 3) := by decide +kernel
theorem dX2_readFrom_37 : decode cX2_readFrom 37 = .ok (.aload_n 1, 1) := by decide +kernel
theorem dX2_readFrom_38 : decode cX2_readFrom 38 = .ok (.iload_n 3, 1) := by decide +kernel
theorem dX2_readFrom_39 : decode cX2_readFrom 39 = .ok (.bipush 12, 2) := by decide +kernel
theorem dX2_readFrom_41 : decode cX2_readFrom 41 = .ok (.iadd, 1) := by decide +kernel
theorem dX2_readFrom_42 : decode cX2_readFrom 42 = .ok (.aload_n 0, 1) := by decide +kernel
theorem dX2_readFrom_43 : decode cX2_readFrom 43 = .ok (.getfield 15, 3) := by decide +kernel
theorem dX2_readFrom_46 : decode cX2_readFrom 46 = .ok (.iconst 0, 1) := by decide +kernel
theorem dX2_readFrom_47 : decode cX2_readFrom 47 = .ok (.bipush 12, 2) := by decide +kernel
theorem dX2_readFrom_49 : decode cX2_readFrom 49 = .ok (.invokestatic 34, 3) := by decide +kernel
theorem dX2_readFrom_52 : decode cX2_readFrom 52 = .ok (.aload_n 1, 1) := by decide +kernel
theorem dX2_readFrom_53 : decode cX2_readFrom 53 = .ok (.iload_n 3, 1) := by decide +kernel
theorem dX2_readFrom_54 : decode cX2_readFrom 54 = .ok (.bipush 24, 2) := by decide +kernel
theorem dX2_readFrom_56 : decode cX2_readFrom 56 = .ok (.iadd, 1) := by decide +kernel
theorem dX2_readFrom_57 : decode cX2_readFrom 57 = .ok (.aload_n 0, 1) := by decide +kernel
theorem dX2_readFrom_58 : decode cX2_readFrom 58 = .ok (.getfield 18, 3) := by decide +kernel
theorem dX2_readFrom_61 : decode cX2_readFrom 61 = .ok (.iconst 0, 1) := by decide +kernel
theorem dX2_readFrom_62 : decode cX2_readFrom 62 = .ok (.bipush 12, 2) := by decide +kernel
theorem dX2_readFrom_64 : decode cX2_readFrom 64 = .ok (.invokestatic 34, 3) := by decide +kernel
theorem dX2_readFrom_67 : decode cX2_readFrom 67 = .ok (.iinc 3 36, 3) := by decide +kernel
theorem dX2_readFrom_70 : decode cX2_readFrom 70 = .ok (.aload_n 1, 1) := by decide +kernel
theorem dX2_readFrom_71 : decode cX2_readFrom 71 = .ok (.iload_n 3, 1) := by decide +kernel
theorem dX2_readFrom_72 : decode cX2_readFrom 72 = .ok (.aload_n 0, 1) := by decide +kernel
theorem dX2_readFrom_73 : decode cX2_readFrom 73 = .ok (.getfield 21, 3) := by decide +kernel
theorem dX2_readFrom_76 : decode cX2_readFrom 76 = .ok (.iconst 0, 1) := by decide +kernel
theorem dX2_readFrom_77 : decode cX2_readFrom 77 = .ok (.bipush 6, 2) := by decide +kernel
theorem dX2_readFrom_79 : decode cX2_readFrom 79 = .ok (.invokestatic 34, 3) := by decide +kernel
theorem dX2_readFrom_82 : decode cX2_readFrom 82 = .ok (.aload_n 1, 1) := by decide +kernel
theorem dX2_readFrom_83 : decode cX2_readFrom 83 = .ok (.iload_n 3, 1) := by decide +kernel
theorem dX2_readFrom_84 : decode cX2_readFrom 84 = .ok (.bipush 6, 2) := by decide +kernel
theorem dX2_readFrom_86 : decode cX2_readFrom 86 = .ok (.iadd, 1) := by decide +kernel
theorem dX2_readFrom_87 : decode cX2_readFrom 87 = .ok (.aload_n 0, 1) := by decide +kernel
theorem dX2_readFrom_88 : decode cX2_readFrom 88 = .ok (.getfield 24, 3) := by decide +kernel
theorem dX2_readFrom_91 : decode cX2_readFrom 91 = .ok (.iconst 0, 1) := by decide +kernel
theorem dX2_readFrom_92 : decode cX2_readFrom 92 = .ok (.bipush 6, 2) := by decide +kernel
theorem dX2_readFrom_94 : decode cX2_readFrom 94 = .ok (.invokestatic 34, 3) := by decide +kernel
theorem dX2_readFrom_97 : decode cX2_readFrom 97 = .ok (.return_, 1) := by decide +kernel
theorem dX2_isOpen_0 : decode cX2_isOpen 0 = .ok (.aload_n 0, 1) := by decide +kernel
theorem dX2_isOpen_1 : decode cX2_isOpen 1 = .ok (.getfield 15, 3) := by decide +kernel
theorem dX2_isOpen_4 : decode cX2_isOpen 4 = .ok (.iload_n 1, 1) := by decide +kernel
theorem dX2_isOpen_5 : decode cX2_isOpen 5 = .ok (.iaload, 1) := by decide +kernel
theorem dX2_isOpen_6 : decode cX2_isOpen 6 = .ok (.ifCond .ne 7, 3) := by decide +kernel
theorem dX2_isOpen_9 : decode cX2_isOpen 9 = .ok (.iconst 1, 1) := by decide +kernel
theorem dX2_isOpen_10 : decode cX2_isOpen 10 = .ok (.goto 4, 3) := by decide +kernel
theorem dX2_isOpen_13 : decode cX2_isOpen 13 = .ok (.iconst 0, 1) := by decide +kernel
theorem dX2_isOpen_14 : decode cX2_isOpen 14 = .ok (.ireturn, 1) := by decide +kernel
theorem dX2_openBits_0 : decode cX2_openBits 0 = .ok (.iconst 0, 1) := by decide +kernel
theorem dX2_openBits_1 : decode cX2_openBits 1 = .ok (.istore_n 2, 1) := by decide +kernel
theorem dX2_openBits_2 : decode cX2_openBits 2 = .ok (.iconst 0, 1) := by decide +kernel
theorem dX2_openBits_3 : decode cX2_openBits 3 = .ok (.istore_n 3, 1) := by decide +kernel
theorem dX2_openBits_4 : decode cX2_openBits 4 = .ok (.iload_n 3, 1) := by decide +kernel
theorem dX2_openBits_5 : decode cX2_openBits 5 = .ok (.aload_n 1, 1) := by decide +kernel
theorem dX2_openBits_6 : decode cX2_openBits 6 = .ok (.getfield 40, 3) := by decide +kernel
theorem dX2_openBits_9 : decode cX2_openBits 9 = .ok (.if_icmp .ge 24, 3) := by decide +kernel
theorem dX2_openBits_12 : decode cX2_openBits 12 = .ok (.aload_n 0, 1) := by decide +kernel
theorem dX2_openBits_13 : decode cX2_openBits 13 = .ok (.getfield 15, 3) := by decide +kernel
theorem dX2_openBits_16 : decode cX2_openBits 16 = .ok (.iload_n 3, 1) := by decide +kernel
theorem dX2_openBits_17 : decode cX2_openBits 17 = .ok (.iaload, 1) := by decide +kernel
theorem dX2_openBits_18 : decode cX2_openBits 18 = .ok (.ifCond .ne 9, 3) := by decide +kernel
theorem dX2_openBits_21 : decode cX2_openBits 21 = .ok (.iload_n 2, 1) := by decide +kernel
theorem dX2_openBits_22 : decode cX2_openBits 22 = .ok (.iconst 1, 1) := by decide +kernel
theorem dX2_openBits_23 : decode cX2_openBits 23 = .ok (.iload_n 3, 1) := by decide +kernel
theorem dX2_openBits_24 : decode cX2_openBits 24 = .ok (.ishl, 1) := by decide +kernel
theorem dX2_openBits_25 : decode cX2_openBits 25 = .ok (.ior, 1) := by decide +kernel
theorem dX2_openBits_26 : decode cX2_openBits 26 = .ok (.istore_n 2, 1) := by decide +kernel
theorem dX2_openBits_27 : decode cX2_openBits 27 = .ok (.iinc 3 1, 3) := by decide +kernel
theorem dX2_openBits_30 : decode cX2_openBits 30 = .ok (.goto (-26), 3) := by decide +kernel
theorem dX2_openBits_33 : decode cX2_openBits 33 = .ok (.iload_n 2, 1) := by decide +kernel
theorem dX2_openBits_34 : decode cX2_openBits 34 = .ok (.ireturn, 1) := by decide +kernel
theorem dX2_strainedBits_0 : decode cX2_strainedBits 0 = .ok (.iconst 0, 1) := by decide +kernel
theorem dX2_strainedBits_1 : decode cX2_strainedBits 1 = .ok (.istore_n 3, 1) := by decide +kernel
theorem dX2_strainedBits_2 : decode cX2_strainedBits 2 = .ok (.iconst 0, 1) := by decide +kernel
theorem dX2_strainedBits_3 : decode cX2_strainedBits 3 = .ok (.istore 4, 2) := by decide +kernel
theorem dX2_strainedBits_5 : decode cX2_strainedBits 5 = .ok (.iload 4, 2) := by decide +kernel
theorem dX2_strainedBits_7 : decode cX2_strainedBits 7 = .ok (.aload_n 1, 1) := by decide +kernel
theorem dX2_strainedBits_8 : decode cX2_strainedBits 8 = .ok (.getfield 40, 3) := by decide +kernel
theorem dX2_strainedBits_11 : decode cX2_strainedBits 11 = .ok (.if_icmp .ge 27, 3) := by decide +kernel
theorem dX2_strainedBits_14 : decode cX2_strainedBits 14 = .ok (.aload_n 0, 1) := by decide +kernel
theorem dX2_strainedBits_15 : decode cX2_strainedBits 15 = .ok (.getfield 9, 3) := by decide +kernel
theorem dX2_strainedBits_18 : decode cX2_strainedBits 18 = .ok (.iload 4, 2) := by decide +kernel
theorem dX2_strainedBits_20 : decode cX2_strainedBits 20 = .ok (.iaload, 1) := by decide +kernel
theorem dX2_strainedBits_21 : decode cX2_strainedBits 21 = .ok (.iload_n 2, 1) := by decide +kernel
theorem dX2_strainedBits_22 : decode cX2_strainedBits 22 = .ok (.if_icmp .lt 10, 3) := by decide +kernel
theorem dX2_strainedBits_25 : decode cX2_strainedBits 25 = .ok (.iload_n 3, 1) := by decide +kernel
theorem dX2_strainedBits_26 : decode cX2_strainedBits 26 = .ok (.iconst 1, 1) := by decide +kernel
theorem dX2_strainedBits_27 : decode cX2_strainedBits 27 = .ok (.iload 4, 2) := by decide +kernel
theorem dX2_strainedBits_29 : decode cX2_strainedBits 29 = .ok (.ishl, 1) := by decide +kernel
theorem dX2_strainedBits_30 : decode cX2_strainedBits 30 = .ok (.ior, 1) := by decide +kernel
theorem dX2_strainedBits_31 : decode cX2_strainedBits 31 = .ok (.istore_n 3, 1) := by decide +kernel
theorem dX2_strainedBits_32 : decode cX2_strainedBits 32 = .ok (.iinc 4 1, 3) := by decide +kernel
theorem dX2_strainedBits_35 : decode cX2_strainedBits 35 = .ok (.goto (-30), 3) := by decide +kernel
theorem dX2_strainedBits_38 : decode cX2_strainedBits 38 = .ok (.iload_n 3, 1) := by decide +kernel
theorem dX2_strainedBits_39 : decode cX2_strainedBits 39 = .ok (.ireturn, 1) := by decide +kernel
theorem dX2_womenBits_0 : decode cX2_womenBits 0 = .ok (.iconst 0, 1) := by decide +kernel
theorem dX2_womenBits_1 : decode cX2_womenBits 1 = .ok (.istore_n 3, 1) := by decide +kernel
theorem dX2_womenBits_2 : decode cX2_womenBits 2 = .ok (.iconst 0, 1) := by decide +kernel
theorem dX2_womenBits_3 : decode cX2_womenBits 3 = .ok (.istore 4, 2) := by decide +kernel
theorem dX2_womenBits_5 : decode cX2_womenBits 5 = .ok (.iload 4, 2) := by decide +kernel
theorem dX2_womenBits_7 : decode cX2_womenBits 7 = .ok (.aload_n 1, 1) := by decide +kernel
theorem dX2_womenBits_8 : decode cX2_womenBits 8 = .ok (.getfield 45, 3) := by decide +kernel
theorem dX2_womenBits_11 : decode cX2_womenBits 11 = .ok (.if_icmp .ge 27, 3) := by decide +kernel
theorem dX2_womenBits_14 : decode cX2_womenBits 14 = .ok (.aload_n 0, 1) := by decide +kernel
theorem dX2_womenBits_15 : decode cX2_womenBits 15 = .ok (.getfield 21, 3) := by decide +kernel
theorem dX2_womenBits_18 : decode cX2_womenBits 18 = .ok (.iload 4, 2) := by decide +kernel
theorem dX2_womenBits_20 : decode cX2_womenBits 20 = .ok (.iaload, 1) := by decide +kernel
theorem dX2_womenBits_21 : decode cX2_womenBits 21 = .ok (.iload_n 2, 1) := by decide +kernel
theorem dX2_womenBits_22 : decode cX2_womenBits 22 = .ok (.if_icmp .ne 10, 3) := by decide +kernel
theorem dX2_womenBits_25 : decode cX2_womenBits 25 = .ok (.iload_n 3, 1) := by decide +kernel
theorem dX2_womenBits_26 : decode cX2_womenBits 26 = .ok (.iconst 1, 1) := by decide +kernel
theorem dX2_womenBits_27 : decode cX2_womenBits 27 = .ok (.iload 4, 2) := by decide +kernel
theorem dX2_womenBits_29 : decode cX2_womenBits 29 = .ok (.ishl, 1) := by decide +kernel
theorem dX2_womenBits_30 : decode cX2_womenBits 30 = .ok (.ior, 1) := by decide +kernel
theorem dX2_womenBits_31 : decode cX2_womenBits 31 = .ok (.istore_n 3, 1) := by decide +kernel
theorem dX2_womenBits_32 : decode cX2_womenBits 32 = .ok (.iinc 4 1, 3) := by decide +kernel
theorem dX2_womenBits_35 : decode cX2_womenBits 35 = .ok (.goto (-30), 3) := by decide +kernel
theorem dX2_womenBits_38 : decode cX2_womenBits 38 = .ok (.iload_n 3, 1) := by decide +kernel
theorem dX2_womenBits_39 : decode cX2_womenBits 39 = .ok (.ireturn, 1) := by decide +kernel
theorem dX2_bareBits_0 : decode cX2_bareBits 0 = .ok (.iconst 0, 1) := by decide +kernel
theorem dX2_bareBits_1 : decode cX2_bareBits 1 = .ok (.istore_n 2, 1) := by decide +kernel
theorem dX2_bareBits_2 : decode cX2_bareBits 2 = .ok (.iconst 0, 1) := by decide +kernel
theorem dX2_bareBits_3 : decode cX2_bareBits 3 = .ok (.istore_n 3, 1) := by decide +kernel
theorem dX2_bareBits_4 : decode cX2_bareBits 4 = .ok (.iload_n 3, 1) := by decide +kernel
theorem dX2_bareBits_5 : decode cX2_bareBits 5 = .ok (.aload_n 1, 1) := by decide +kernel
theorem dX2_bareBits_6 : decode cX2_bareBits 6 = .ok (.getfield 45, 3) := by decide +kernel
theorem dX2_bareBits_9 : decode cX2_bareBits 9 = .ok (.if_icmp .ge 24, 3) := by decide +kernel
theorem dX2_bareBits_12 : decode cX2_bareBits 12 = .ok (.aload_n 0, 1) := by decide +kernel
theorem dX2_bareBits_13 : decode cX2_bareBits 13 = .ok (.getfield 24, 3) := by decide +kernel
theorem dX2_bareBits_16 : decode cX2_bareBits 16 = .ok (.iload_n 3, 1) := by decide +kernel
theorem dX2_bareBits_17 : decode cX2_bareBits 17 = .ok (.iaload, 1) := by decide +kernel
theorem dX2_bareBits_18 : decode cX2_bareBits 18 = .ok (.ifCond .ne 9, 3) := by decide +kernel
theorem dX2_bareBits_21 : decode cX2_bareBits 21 = .ok (.iload_n 2, 1) := by decide +kernel
theorem dX2_bareBits_22 : decode cX2_bareBits 22 = .ok (.iconst 1, 1) := by decide +kernel
theorem dX2_bareBits_23 : decode cX2_bareBits 23 = .ok (.iload_n 3, 1) := by decide +kernel
theorem dX2_bareBits_24 : decode cX2_bareBits 24 = .ok (.ishl, 1) := by decide +kernel
theorem dX2_bareBits_25 : decode cX2_bareBits 25 = .ok (.ior, 1) := by decide +kernel
theorem dX2_bareBits_26 : decode cX2_bareBits 26 = .ok (.istore_n 2, 1) := by decide +kernel
theorem dX2_bareBits_27 : decode cX2_bareBits 27 = .ok (.iinc 3 1, 3) := by decide +kernel
theorem dX2_bareBits_30 : decode cX2_bareBits 30 = .ok (.goto (-26), 3) := by decide +kernel
theorem dX2_bareBits_33 : decode cX2_bareBits 33 = .ok (.iload_n 2, 1) := by decide +kernel
theorem dX2_bareBits_34 : decode cX2_bareBits 34 = .ok (.ireturn, 1) := by decide +kernel
theorem dX2_idleBits_0 : decode cX2_idleBits 0 = .ok (.aload_n 0, 1) := by decide +kernel
theorem dX2_idleBits_1 : decode cX2_idleBits 1 = .ok (.aload_n 1, 1) := by decide +kernel
theorem dX2_idleBits_2 : decode cX2_idleBits 2 = .ok (.invokevirtual 48, 3) := by decide +kernel
theorem dX2_idleBits_5 : decode cX2_idleBits 5 = .ok (.istore_n 2, 1) := by decide +kernel
theorem dX2_idleBits_6 : decode cX2_idleBits 6 = .ok (.iconst 0, 1) := by decide +kernel
theorem dX2_idleBits_7 : decode cX2_idleBits 7 = .ok (.istore_n 3, 1) := by decide +kernel
theorem dX2_idleBits_8 : decode cX2_idleBits 8 = .ok (.iload_n 3, 1) := by decide +kernel
theorem dX2_idleBits_9 : decode cX2_idleBits 9 = .ok (.aload_n 1, 1) := by decide +kernel
theorem dX2_idleBits_10 : decode cX2_idleBits 10 = .ok (.getfield 45, 3) := by decide +kernel
theorem dX2_idleBits_13 : decode cX2_idleBits 13 = .ok (.if_icmp .ge 39, 3) := by decide +kernel
theorem dX2_idleBits_16 : decode cX2_idleBits 16 = .ok (.iconst 1, 1) := by decide +kernel
theorem dX2_idleBits_17 : decode cX2_idleBits 17 = .ok (.iload_n 3, 1) := by decide +kernel
theorem dX2_idleBits_18 : decode cX2_idleBits 18 = .ok (.ishl, 1) := by decide +kernel
theorem dX2_idleBits_19 : decode cX2_idleBits 19 = .ok (.iconst 1, 1) := by decide +kernel
theorem dX2_idleBits_20 : decode cX2_idleBits 20 = .ok (.isub, 1) := by decide +kernel
theorem dX2_idleBits_21 : decode cX2_idleBits 21 = .ok (.istore 4, 2) := by decide +kernel
theorem dX2_idleBits_23 : decode cX2_idleBits 23 = .ok (.aload_n 0, 1) := by decide +kernel
theorem dX2_idleBits_24 : decode cX2_idleBits 24 = .ok (.aload_n 1, 1) := by decide +kernel
theorem dX2_idleBits_25 : decode cX2_idleBits 25 = .ok (.aload_n 0, 1) := by decide +kernel
theorem dX2_idleBits_26 : decode cX2_idleBits 26 = .ok (.getfield 21, 3) := by decide +kernel
theorem dX2_idleBits_29 : decode cX2_idleBits 29 = .ok (.iload_n 3, 1) := by decide +kernel
theorem dX2_idleBits_30 : decode cX2_idleBits 30 = .ok (.iaload, 1) := by decide +kernel
theorem dX2_idleBits_31 : decode cX2_idleBits 31 = .ok (.invokevirtual 52, 3) := by decide +kernel
theorem dX2_idleBits_34 : decode cX2_idleBits 34 = .ok (.iload 4, 2) := by decide +kernel
theorem dX2_idleBits_36 : decode cX2_idleBits 36 = .ok (.iand, 1) := by decide +kernel
theorem dX2_idleBits_37 : decode cX2_idleBits 37 = .ok (.ifCond .eq 9, 3) := by decide +kernel
theorem dX2_idleBits_40 : decode cX2_idleBits 40 = .ok (.iload_n 2, 1) := by decide +kernel
theorem dX2_idleBits_41 : decode cX2_idleBits 41 = .ok (.iconst 1, 1) := by decide +kernel
theorem dX2_idleBits_42 : decode cX2_idleBits 42 = .ok (.iload_n 3, 1) := by decide +kernel
theorem dX2_idleBits_43 : decode cX2_idleBits 43 = .ok (.ishl, 1) := by decide +kernel
theorem dX2_idleBits_44 : decode cX2_idleBits 44 = .ok (.ior, 1) := by decide +kernel
theorem dX2_idleBits_45 : decode cX2_idleBits 45 = .ok (.istore_n 2, 1) := by decide +kernel
theorem dX2_idleBits_46 : decode cX2_idleBits 46 = .ok (.iinc 3 1, 3) := by decide +kernel
theorem dX2_idleBits_49 : decode cX2_idleBits 49 = .ok (.goto (-41), 3) := by decide +kernel
theorem dX2_idleBits_52 : decode cX2_idleBits 52 = .ok (.iload_n 2, 1) := by decide +kernel
theorem dX2_idleBits_53 : decode cX2_idleBits 53 = .ok (.ireturn, 1) := by decide +kernel
theorem dX2_seamOfAll_0 : decode cX2_seamOfAll 0 = .ok (.iconst 0, 1) := by decide +kernel
theorem dX2_seamOfAll_1 : decode cX2_seamOfAll 1 = .ok (.istore_n 2, 1) := by decide +kernel
theorem dX2_seamOfAll_2 : decode cX2_seamOfAll 2 = .ok (.iconst 0, 1) := by decide +kernel
theorem dX2_seamOfAll_3 : decode cX2_seamOfAll 3 = .ok (.istore_n 3, 1) := by decide +kernel
theorem dX2_seamOfAll_4 : decode cX2_seamOfAll 4 = .ok (.iload_n 3, 1) := by decide +kernel
theorem dX2_seamOfAll_5 : decode cX2_seamOfAll 5 = .ok (.aload_n 1, 1) := by decide +kernel
theorem dX2_seamOfAll_6 : decode cX2_seamOfAll 6 = .ok (.getfield 40, 3) := by decide +kernel
theorem dX2_seamOfAll_9 : decode cX2_seamOfAll 9 = .ok (.if_icmp .ge 18, 3) := by decide +kernel
theorem dX2_seamOfAll_12 : decode cX2_seamOfAll 12 = .ok (.iload_n 2, 1) := by decide +kernel
theorem dX2_seamOfAll_13 : decode cX2_seamOfAll 13 = .ok (.aload_n 0, 1) := by decide +kernel
theorem dX2_seamOfAll_14 : decode cX2_seamOfAll 14 = .ok (.getfield 15, 3) := by decide +kernel
theorem dX2_seamOfAll_17 : decode cX2_seamOfAll 17 = .ok (.iload_n 3, 1) := by decide +kernel
theorem dX2_seamOfAll_18 : decode cX2_seamOfAll 18 = .ok (.iaload, 1) := by decide +kernel
theorem dX2_seamOfAll_19 : decode cX2_seamOfAll 19 = .ok (.iadd, 1) := by decide +kernel
theorem dX2_seamOfAll_20 : decode cX2_seamOfAll 20 = .ok (.istore_n 2, 1) := by decide +kernel
theorem dX2_seamOfAll_21 : decode cX2_seamOfAll 21 = .ok (.iinc 3 1, 3) := by decide +kernel
theorem dX2_seamOfAll_24 : decode cX2_seamOfAll 24 = .ok (.goto (-20), 3) := by decide +kernel
theorem dX2_seamOfAll_27 : decode cX2_seamOfAll 27 = .ok (.iload_n 2, 1) := by decide +kernel
theorem dX2_seamOfAll_28 : decode cX2_seamOfAll 28 = .ok (.ireturn, 1) := by decide +kernel
theorem dX2_threadOfAll_0 : decode cX2_threadOfAll 0 = .ok (.iconst 0, 1) := by decide +kernel
theorem dX2_threadOfAll_1 : decode cX2_threadOfAll 1 = .ok (.istore_n 2, 1) := by decide +kernel
theorem dX2_threadOfAll_2 : decode cX2_threadOfAll 2 = .ok (.iconst 0, 1) := by decide +kernel
theorem dX2_threadOfAll_3 : decode cX2_threadOfAll 3 = .ok (.istore_n 3, 1) := by decide +kernel
theorem dX2_threadOfAll_4 : decode cX2_threadOfAll 4 = .ok (.iload_n 3, 1) := by decide +kernel
theorem dX2_threadOfAll_5 : decode cX2_threadOfAll 5 = .ok (.aload_n 1, 1) := by decide +kernel
theorem dX2_threadOfAll_6 : decode cX2_threadOfAll 6 = .ok (.getfield 45, 3) := by decide +kernel
theorem dX2_threadOfAll_9 : decode cX2_threadOfAll 9 = .ok (.if_icmp .ge 18, 3) := by decide +kernel
theorem dX2_threadOfAll_12 : decode cX2_threadOfAll 12 = .ok (.iload_n 2, 1) := by decide +kernel
theorem dX2_threadOfAll_13 : decode cX2_threadOfAll 13 = .ok (.aload_n 0, 1) := by decide +kernel
theorem dX2_threadOfAll_14 : decode cX2_threadOfAll 14 = .ok (.getfield 24, 3) := by decide +kernel
theorem dX2_threadOfAll_17 : decode cX2_threadOfAll 17 = .ok (.iload_n 3, 1) := by decide +kernel
theorem dX2_threadOfAll_18 : decode cX2_threadOfAll 18 = .ok (.iaload, 1) := by decide +kernel
theorem dX2_threadOfAll_19 : decode cX2_threadOfAll 19 = .ok (.iadd, 1) := by decide +kernel
theorem dX2_threadOfAll_20 : decode cX2_threadOfAll 20 = .ok (.istore_n 2, 1) := by decide +kernel
theorem dX2_threadOfAll_21 : decode cX2_threadOfAll 21 = .ok (.iinc 3 1, 3) := by decide +kernel
theorem dX2_threadOfAll_24 : decode cX2_threadOfAll 24 = .ok (.goto (-20), 3) := by decide +kernel
theorem dX2_threadOfAll_27 : decode cX2_threadOfAll 27 = .ok (.iload_n 2, 1) := by decide +kernel
theorem dX2_threadOfAll_28 : decode cX2_threadOfAll 28 = .ok (.ireturn, 1) := by decide +kernel
theorem dX2_tightest_0 : decode cX2_tightest 0 = .ok (.iconst 0, 1) := by decide +kernel
theorem dX2_tightest_1 : decode cX2_tightest 1 = .ok (.istore_n 2, 1) := by decide +kernel
theorem dX2_tightest_2 : decode cX2_tightest 2 = .ok (.iconst 1, 1) := by decide +kernel
theorem dX2_tightest_3 : decode cX2_tightest 3 = .ok (.istore_n 3, 1) := by decide +kernel
theorem dX2_tightest_4 : decode cX2_tightest 4 = .ok (.iload_n 3, 1) := by decide +kernel
theorem dX2_tightest_5 : decode cX2_tightest 5 = .ok (.aload_n 1, 1) := by decide +kernel
theorem dX2_tightest_6 : decode cX2_tightest 6 = .ok (.getfield 40, 3) := by decide +kernel
theorem dX2_tightest_9 : decode cX2_tightest 9 = .ok (.if_icmp .ge 26, 3) := by decide +kernel
theorem dX2_tightest_12 : decode cX2_tightest 12 = .ok (.aload_n 0, 1) := by decide +kernel
theorem dX2_tightest_13 : decode cX2_tightest 13 = .ok (.getfield 9, 3) := by decide +kernel
theorem dX2_tightest_16 : decode cX2_tightest 16 = .ok (.iload_n 3, 1) := by decide +kernel
theorem dX2_tightest_17 : decode cX2_tightest 17 = .ok (.iaload, 1) := by decide +kernel
theorem dX2_tightest_18 : decode cX2_tightest 18 = .ok (.aload_n 0, 1) := by decide +kernel
theorem dX2_tightest_19 : decode cX2_tightest 19 = .ok (.getfield 9, 3) := by decide +kernel
theorem dX2_tightest_22 : decode cX2_tightest 22 = .ok (.iload_n 2, 1) := by decide +kernel
theorem dX2_tightest_23 : decode cX2_tightest 23 = .ok (.iaload, 1) := by decide +kernel
theorem dX2_tightest_24 : decode cX2_tightest 24 = .ok (.if_icmp .le 5, 3) := by decide +kernel
theorem dX2_tightest_27 : decode cX2_tightest 27 = .ok (.iload_n 3, 1) := by decide +kernel
theorem dX2_tightest_28 : decode cX2_tightest 28 = .ok (.istore_n 2, 1) := by decide +kernel
theorem dX2_tightest_29 : decode cX2_tightest 29 = .ok (.iinc 3 1, 3) := by decide +kernel
theorem dX2_tightest_32 : decode cX2_tightest 32 = .ok (.goto (-28), 3) := by decide +kernel
theorem dX2_tightest_35 : decode cX2_tightest 35 = .ok (.iload_n 2, 1) := by decide +kernel
theorem dX2_tightest_36 : decode cX2_tightest 36 = .ok (.ireturn, 1) := by decide +kernel
theorem dX2_mostStrain_0 : decode cX2_mostStrain 0 = .ok (.aload_n 0, 1) := by decide +kernel
theorem dX2_mostStrain_1 : decode cX2_mostStrain 1 = .ok (.getfield 9, 3) := by decide +kernel
theorem dX2_mostStrain_4 : decode cX2_mostStrain 4 = .ok (.iconst 0, 1) := by decide +kernel
theorem dX2_mostStrain_5 : decode cX2_mostStrain 5 = .ok (.iaload, 1) := by decide +kernel
theorem dX2_mostStrain_6 : decode cX2_mostStrain 6 = .ok (.istore_n 2, 1) := by decide +kernel
theorem dX2_mostStrain_7 : decode cX2_mostStrain 7 = .ok (.iconst 1, 1) := by decide +kernel
theorem dX2_mostStrain_8 : decode cX2_mostStrain 8 = .ok (.istore_n 3, 1) := by decide +kernel
theorem dX2_mostStrain_9 : decode cX2_mostStrain 9 = .ok (.iload_n 3, 1) := by decide +kernel
theorem dX2_mostStrain_10 : decode cX2_mostStrain 10 = .ok (.aload_n 1, 1) := by decide +kernel
theorem dX2_mostStrain_11 : decode cX2_mostStrain 11 = .ok (.getfield 40, 3) := by decide +kernel
theorem dX2_mostStrain_14 : decode cX2_mostStrain 14 = .ok (.if_icmp .ge 20, 3) := by decide +kernel
theorem dX2_mostStrain_17 : decode cX2_mostStrain 17 = .ok (.iload_n 2, 1) := by decide +kernel
theorem dX2_mostStrain_18 : decode cX2_mostStrain 18 = .ok (.aload_n 0, 1) := by decide +kernel
theorem dX2_mostStrain_19 : decode cX2_mostStrain 19 = .ok (.getfield 9, 3) := by decide +kernel
theorem dX2_mostStrain_22 : decode cX2_mostStrain 22 = .ok (.iload_n 3, 1) := by decide +kernel
theorem dX2_mostStrain_23 : decode cX2_mostStrain 23 = .ok (.iaload, 1) := by decide +kernel
theorem dX2_mostStrain_24 : decode cX2_mostStrain 24 = .ok (.invokestatic 56, 3) := by decide +kernel
theorem dX2_mostStrain_27 : decode cX2_mostStrain 27 = .ok (.istore_n 2, 1) := by decide +kernel
theorem dX2_mostStrain_28 : decode cX2_mostStrain 28 = .ok (.iinc 3 1, 3) := by decide +kernel
theorem dX2_mostStrain_31 : decode cX2_mostStrain 31 = .ok (.goto (-22), 3) := by decide +kernel
theorem dX2_mostStrain_34 : decode cX2_mostStrain 34 = .ok (.iload_n 2, 1) := by decide +kernel
theorem dX2_mostStrain_35 : decode cX2_mostStrain 35 = .ok (.ireturn, 1) := by decide +kernel
theorem dX2_leastStrain_0 : decode cX2_leastStrain 0 = .ok (.aload_n 0, 1) := by decide +kernel
theorem dX2_leastStrain_1 : decode cX2_leastStrain 1 = .ok (.getfield 9, 3) := by decide +kernel
theorem dX2_leastStrain_4 : decode cX2_leastStrain 4 = .ok (.iconst 0, 1) := by decide +kernel
theorem dX2_leastStrain_5 : decode cX2_leastStrain 5 = .ok (.iaload, 1) := by decide +kernel
theorem dX2_leastStrain_6 : decode cX2_leastStrain 6 = .ok (.istore_n 2, 1) := by decide +kernel
theorem dX2_leastStrain_7 : decode cX2_leastStrain 7 = .ok (.iconst 1, 1) := by decide +kernel
theorem dX2_leastStrain_8 : decode cX2_leastStrain 8 = .ok (.istore_n 3, 1) := by decide +kernel
theorem dX2_leastStrain_9 : decode cX2_leastStrain 9 = .ok (.iload_n 3, 1) := by decide +kernel
theorem dX2_leastStrain_10 : decode cX2_leastStrain 10 = .ok (.aload_n 1, 1) := by decide +kernel
theorem dX2_leastStrain_11 : decode cX2_leastStrain 11 = .ok (.getfield 40, 3) := by decide +kernel
theorem dX2_leastStrain_14 : decode cX2_leastStrain 14 = .ok (.if_icmp .ge 20, 3) := by decide +kernel
theorem dX2_leastStrain_17 : decode cX2_leastStrain 17 = .ok (.iload_n 2, 1) := by decide +kernel
theorem dX2_leastStrain_18 : decode cX2_leastStrain 18 = .ok (.aload_n 0, 1) := by decide +kernel
theorem dX2_leastStrain_19 : decode cX2_leastStrain 19 = .ok (.getfield 9, 3) := by decide +kernel
theorem dX2_leastStrain_22 : decode cX2_leastStrain 22 = .ok (.iload_n 3, 1) := by decide +kernel
theorem dX2_leastStrain_23 : decode cX2_leastStrain 23 = .ok (.iaload, 1) := by decide +kernel
theorem dX2_leastStrain_24 : decode cX2_leastStrain 24 = .ok (.invokestatic 62, 3) := by decide +kernel
theorem dX2_leastStrain_27 : decode cX2_leastStrain 27 = .ok (.istore_n 2, 1) := by decide +kernel
theorem dX2_leastStrain_28 : decode cX2_leastStrain 28 = .ok (.iinc 3 1, 3) := by decide +kernel
theorem dX2_leastStrain_31 : decode cX2_leastStrain 31 = .ok (.goto (-22), 3) := by decide +kernel
theorem dX2_leastStrain_34 : decode cX2_leastStrain 34 = .ok (.iload_n 2, 1) := by decide +kernel
theorem dX2_leastStrain_35 : decode cX2_leastStrain 35 = .ok (.ireturn, 1) := by decide +kernel
theorem dX2_isLike_0 : decode cX2_isLike 0 = .ok (.iconst 0, 1) := by decide +kernel
theorem dX2_isLike_1 : decode cX2_isLike 1 = .ok (.istore_n 3, 1) := by decide +kernel
theorem dX2_isLike_2 : decode cX2_isLike 2 = .ok (.iload_n 3, 1) := by decide +kernel
theorem dX2_isLike_3 : decode cX2_isLike 3 = .ok (.aload_n 2, 1) := by decide +kernel
theorem dX2_isLike_4 : decode cX2_isLike 4 = .ok (.getfield 40, 3) := by decide +kernel
theorem dX2_isLike_7 : decode cX2_isLike 7 = .ok (.if_icmp .ge 41, 3) := by decide +kernel
theorem dX2_isLike_10 : decode cX2_isLike 10 = .ok (.aload_n 0, 1) := by decide +kernel
theorem dX2_isLike_11 : decode cX2_isLike 11 = .ok (.getfield 9, 3) := by decide +kernel
theorem dX2_isLike_14 : decode cX2_isLike 14 = .ok (.iload_n 3, 1) := by decide +kernel
theorem dX2_isLike_15 : decode cX2_isLike 15 = .ok (.iaload, 1) := by decide +kernel
theorem dX2_isLike_16 : decode cX2_isLike 16 = .ok (.aload_n 1, 1) := by decide +kernel
theorem dX2_isLike_17 : decode cX2_isLike 17 = .ok (.getfield 9, 3) := by decide +kernel
theorem dX2_isLike_20 : decode cX2_isLike 20 = .ok (.iload_n 3, 1) := by decide +kernel
theorem dX2_isLike_21 : decode cX2_isLike 21 = .ok (.iaload, 1) := by decide +kernel
theorem dX2_isLike_22 : decode cX2_isLike 22 = .ok (.if_icmp .ne 18, 3) := by decide +kernel
theorem dX2_isLike_25 : decode cX2_isLike 25 = .ok (.aload_n 0, 1) := by decide +kernel
theorem dX2_isLike_26 : decode cX2_isLike 26 = .ok (.getfield 15, 3) := by decide +kernel
theorem dX2_isLike_29 : decode cX2_isLike 29 = .ok (.iload_n 3, 1) := by decide +kernel
theorem dX2_isLike_30 : decode cX2_isLike 30 = .ok (.iaload, 1) := by decide +kernel
theorem dX2_isLike_31 : decode cX2_isLike 31 = .ok (.aload_n 1, 1) := by decide +kernel
theorem dX2_isLike_32 : decode cX2_isLike 32 = .ok (.getfield 15, 3) := by decide +kernel
theorem dX2_isLike_35 : decode cX2_isLike 35 = .ok (.iload_n 3, 1) := by decide +kernel
theorem dX2_isLike_36 : decode cX2_isLike 36 = .ok (.iaload, 1) := by decide +kernel
theorem dX2_isLike_37 : decode cX2_isLike 37 = .ok (.if_icmp .eq 5, 3) := by decide +kernel
theorem dX2_isLike_40 : decode cX2_isLike 40 = .ok (.iconst 0, 1) := by decide +kernel
theorem dX2_isLike_41 : decode cX2_isLike 41 = .ok (.ireturn, 1) := by decide +kernel
theorem dX2_isLike_42 : decode cX2_isLike 42 = .ok (.iinc 3 1, 3) := by decide +kernel
theorem dX2_isLike_45 : decode cX2_isLike 45 = .ok (.goto (-43), 3) := by decide +kernel
theorem dX2_isLike_48 : decode cX2_isLike 48 = .ok (.iconst 1, 1) := by decide +kernel
theorem dX2_isLike_49 : decode cX2_isLike 49 = .ok (.ireturn, 1) := by decide +kernel
theorem dX2_seamWhere_0 : decode cX2_seamWhere 0 = .ok (.aload_n 0, 1) := by decide +kernel
theorem dX2_seamWhere_1 : decode cX2_seamWhere 1 = .ok (.getfield 21, 3) := by decide +kernel
theorem dX2_seamWhere_4 : decode cX2_seamWhere 4 = .ok (.iload_n 1, 1) := by decide +kernel
theorem dX2_seamWhere_5 : decode cX2_seamWhere 5 = .ok (.iaload, 1) := by decide +kernel
theorem dX2_seamWhere_6 : decode cX2_seamWhere 6 = .ok (.istore_n 2, 1) := by decide +kernel
theorem dX2_seamWhere_7 : decode cX2_seamWhere 7 = .ok (.iload_n 2, 1) := by decide +kernel
theorem dX2_seamWhere_8 : decode cX2_seamWhere 8 = .ok (.ifCond .lt 9, 3) := by decide +kernel
theorem dX2_seamWhere_11 : decode cX2_seamWhere 11 = .ok (.iload_n 2, 1) := by decide +kernel
theorem dX2_seamWhere_12 : decode cX2_seamWhere 12 = .ok (.bipush 12, 2) := by decide +kernel
theorem dX2_seamWhere_14 : decode cX2_seamWhere 14 = .ok (.if_icmp .lt 7, 3) := by decide +kernel
theorem dX2_seamWhere_17 : decode cX2_seamWhere 17 = .ok (.iconst 0, 1) := by decide +kernel
theorem dX2_seamWhere_18 : decode cX2_seamWhere 18 = .ok (.goto 9, 3) := by decide +kernel
theorem dX2_seamWhere_21 : decode cX2_seamWhere 21 = .ok (.aload_n 0, 1) := by decide +kernel
theorem dX2_seamWhere_22 : decode cX2_seamWhere 22 = .ok (.getfield 15, 3) := by decide +kernel
theorem dX2_seamWhere_25 : decode cX2_seamWhere 25 = .ok (.iload_n 2, 1) := by decide +kernel
theorem dX2_seamWhere_26 : decode cX2_seamWhere 26 = .ok (.iaload, 1) := by decide +kernel
theorem dX2_seamWhere_27 : decode cX2_seamWhere 27 = .ok (.ireturn, 1) := by decide +kernel
theorem dX2_besideOf_0 : decode cX2_besideOf 0 = .ok (.aload_n 1, 1) := by decide +kernel
theorem dX2_besideOf_1 : decode cX2_besideOf 1 = .ok (.getfield 40, 3) := by decide +kernel
theorem dX2_besideOf_4 : decode cX2_besideOf 4 = .ok (.iconst 1, 1) := by decide +kernel
theorem dX2_besideOf_5 : decode cX2_besideOf 5 = .ok (.isub, 1) := by decide +kernel
theorem dX2_besideOf_6 : decode cX2_besideOf 6 = .ok (.istore_n 3, 1) := by decide +kernel
theorem dX2_besideOf_7 : decode cX2_besideOf 7 = .ok (.aload_n 0, 1) := by decide +kernel
theorem dX2_besideOf_8 : decode cX2_besideOf 8 = .ok (.getfield 9, 3) := by decide +kernel
theorem dX2_besideOf_11 : decode cX2_besideOf 11 = .ok (.iload_n 2, 1) := by decide +kernel
theorem dX2_besideOf_12 : decode cX2_besideOf 12 = .ok (.iconst 1, 1) := by decide +kernel
theorem dX2_besideOf_13 : decode cX2_besideOf 13 = .ok (.if_icmp .ge 7, 3) := by decide +kernel
theorem dX2_besideOf_16 : decode cX2_besideOf 16 = .ok (.iload_n 3, 1) := by decide +kernel
theorem dX2_besideOf_17 : decode cX2_besideOf 17 = .ok (.goto 6, 3) := by decide +kernel
theorem dX2_besideOf_20 : decode cX2_besideOf 20 = .ok (.iload_n 2, 1) := by decide +kernel
theorem dX2_besideOf_21 : decode cX2_besideOf 21 = .ok (.iconst 1, 1) := by decide +kernel
theorem dX2_besideOf_22 : decode cX2_besideOf 22 = .ok (.isub, 1) := by decide +kernel
theorem dX2_besideOf_23 : decode cX2_besideOf 23 = .ok (.iaload, 1) := by decide +kernel
theorem dX2_besideOf_24 : decode cX2_besideOf 24 = .ok (.aload_n 0, 1) := by decide +kernel
theorem dX2_besideOf_25 : decode cX2_besideOf 25 = .ok (.getfield 9, 3) := by decide +kernel
theorem dX2_besideOf_28 : decode cX2_besideOf 28 = .ok (.iload_n 2, 1) := by decide +kernel
theorem dX2_besideOf_29 : decode cX2_besideOf 29 = .ok (.iload_n 3, 1) := by decide +kernel
theorem dX2_besideOf_30 : decode cX2_besideOf 30 = .ok (.if_icmp .lt 7, 3) := by decide +kernel
theorem dX2_besideOf_33 : decode cX2_besideOf 33 = .ok (.iconst 0, 1) := by decide +kernel
theorem dX2_besideOf_34 : decode cX2_besideOf 34 = .ok (.goto 6, 3) := by decide +kernel
theorem dX2_besideOf_37 : decode cX2_besideOf 37 = .ok (.iload_n 2, 1) := by decide +kernel
theorem dX2_besideOf_38 : decode cX2_besideOf 38 = .ok (.iconst 1, 1) := by decide +kernel
theorem dX2_besideOf_39 : decode cX2_besideOf 39 = .ok (.iadd, 1) := by decide +kernel
theorem dX2_besideOf_40 : decode cX2_besideOf 40 = .ok (.iaload, 1) := by decide +kernel
theorem dX2_besideOf_41 : decode cX2_besideOf 41 = .ok (.iadd, 1) := by decide +kernel
theorem dX2_besideOf_42 : decode cX2_besideOf 42 = .ok (.ireturn, 1) := by decide +kernel
theorem dX2_valueOf_0 : decode cX2_valueOf 0 = .ok (.iload_n 2, 1) := by decide +kernel
theorem dX2_valueOf_1 : decode cX2_valueOf 1 = .ok (.tableswitch 73 (-5) (-1) #[63, 56, 49, 42, 35], 35) := by decide +kernel
theorem dX2_valueOf_36 : decode cX2_valueOf 36 = .ok (.aload_n 0, 1) := by decide +kernel
theorem dX2_valueOf_37 : decode cX2_valueOf 37 = .ok (.getfield 9, 3) := by decide +kernel
theorem dX2_valueOf_40 : decode cX2_valueOf 40 = .ok (.iload_n 3, 1) := by decide +kernel
theorem dX2_valueOf_41 : decode cX2_valueOf 41 = .ok (.iaload, 1) := by decide +kernel
theorem dX2_valueOf_42 : decode cX2_valueOf 42 = .ok (.ireturn, 1) := by decide +kernel
theorem dX2_valueOf_43 : decode cX2_valueOf 43 = .ok (.aload_n 0, 1) := by decide +kernel
theorem dX2_valueOf_44 : decode cX2_valueOf 44 = .ok (.getfield 15, 3) := by decide +kernel
theorem dX2_valueOf_47 : decode cX2_valueOf 47 = .ok (.iload_n 3, 1) := by decide +kernel
theorem dX2_valueOf_48 : decode cX2_valueOf 48 = .ok (.iaload, 1) := by decide +kernel
theorem dX2_valueOf_49 : decode cX2_valueOf 49 = .ok (.ireturn, 1) := by decide +kernel
theorem dX2_valueOf_50 : decode cX2_valueOf 50 = .ok (.aload_n 0, 1) := by decide +kernel
theorem dX2_valueOf_51 : decode cX2_valueOf 51 = .ok (.getfield 18, 3) := by decide +kernel
theorem dX2_valueOf_54 : decode cX2_valueOf 54 = .ok (.iload_n 3, 1) := by decide +kernel
theorem dX2_valueOf_55 : decode cX2_valueOf 55 = .ok (.iaload, 1) := by decide +kernel
theorem dX2_valueOf_56 : decode cX2_valueOf 56 = .ok (.ireturn, 1) := by decide +kernel
theorem dX2_valueOf_57 : decode cX2_valueOf 57 = .ok (.aload_n 0, 1) := by decide +kernel
theorem dX2_valueOf_58 : decode cX2_valueOf 58 = .ok (.aload_n 1, 1) := by decide +kernel
theorem dX2_valueOf_59 : decode cX2_valueOf 59 = .ok (.iload_n 3, 1) := by decide +kernel
theorem dX2_valueOf_60 : decode cX2_valueOf 60 = .ok (.invokevirtual 65, 3) := by decide +kernel
theorem dX2_valueOf_63 : decode cX2_valueOf 63 = .ok (.ireturn, 1) := by decide +kernel
theorem dX2_valueOf_64 : decode cX2_valueOf 64 = .ok (.aload_n 0, 1) := by decide +kernel
theorem dX2_valueOf_65 : decode cX2_valueOf 65 = .ok (.aload_n 1, 1) := by decide +kernel
theorem dX2_valueOf_66 : decode cX2_valueOf 66 = .ok (.iload_n 3, 1) := by decide +kernel
theorem dX2_valueOf_67 : decode cX2_valueOf 67 = .ok (.invokevirtual 52, 3) := by decide +kernel
theorem dX2_valueOf_70 : decode cX2_valueOf 70 = .ok (.invokestatic 68, 3) := by decide +kernel
theorem dX2_valueOf_73 : decode cX2_valueOf 73 = .ok (.ireturn, 1) := by decide +kernel
theorem dX2_valueOf_74 : decode cX2_valueOf 74 = .ok (.aload_n 0, 1) := by decide +kernel
theorem dX2_valueOf_75 : decode cX2_valueOf 75 = .ok (.getfield 30, 3) := by decide +kernel
theorem dX2_valueOf_78 : decode cX2_valueOf 78 = .ok (.ireturn, 1) := by decide +kernel
theorem dX2_pullsBy_0 : decode cX2_pullsBy 0 = .ok (.aload_n 1, 1) := by decide +kernel
theorem dX2_pullsBy_1 : decode cX2_pullsBy 1 = .ok (.getfield 74, 3) := by decide +kernel
theorem dX2_pullsBy_4 : decode cX2_pullsBy 4 = .ok (.getfield 78, 3) := by decide +kernel
theorem dX2_pullsBy_7 : decode cX2_pullsBy 7 = .ok (.ifCond .eq 16, 3) := by decide +kernel
theorem dX2_pullsBy_10 : decode cX2_pullsBy 10 = .ok (.aload_n 1, 1) := by decide +kernel
theorem dX2_pullsBy_11 : decode cX2_pullsBy 11 = .ok (.aload_n 1, 1) := by decide +kernel
theorem dX2_pullsBy_12 : decode cX2_pullsBy 12 = .ok (.getfield 74, 3) := by decide +kernel
theorem dX2_pullsBy_15 : decode cX2_pullsBy 15 = .ok (.aload_n 0, 1) := by decide +kernel
theorem dX2_pullsBy_16 : decode cX2_pullsBy 16 = .ok (.iload_n 2, 1) := by decide +kernel
theorem dX2_pullsBy_17 : decode cX2_pullsBy 17 = .ok (.invokevirtual 84, 3) := by decide +kernel
theorem dX2_pullsBy_20 : decode cX2_pullsBy 20 = .ok (.goto 21, 3) := by decide +kernel
theorem dX2_pullsBy_23 : decode cX2_pullsBy 23 = .ok (.aload_n 0, 1) := by decide +kernel
theorem dX2_pullsBy_24 : decode cX2_pullsBy 24 = .ok (.aload_n 1, 1) := by decide +kernel
theorem dX2_pullsBy_25 : decode cX2_pullsBy 25 = .ok (.iload_n 2, 1) := by decide +kernel
theorem dX2_pullsBy_26 : decode cX2_pullsBy 26 = .ok (.invokevirtual 65, 3) := by decide +kernel
theorem dX2_pullsBy_29 : decode cX2_pullsBy 29 = .ok (.iconst 2, 1) := by decide +kernel
theorem dX2_pullsBy_30 : decode cX2_pullsBy 30 = .ok (.aload_n 0, 1) := by decide +kernel
theorem dX2_pullsBy_31 : decode cX2_pullsBy 31 = .ok (.getfield 9, 3) := by decide +kernel
theorem dX2_pullsBy_34 : decode cX2_pullsBy 34 = .ok (.iload_n 2, 1) := by decide +kernel
theorem dX2_pullsBy_35 : decode cX2_pullsBy 35 = .ok (.iaload, 1) := by decide +kernel
theorem dX2_pullsBy_36 : decode cX2_pullsBy 36 = .ok (.imul, 1) := by decide +kernel
theorem dX2_pullsBy_37 : decode cX2_pullsBy 37 = .ok (.isub, 1) := by decide +kernel
theorem dX2_pullsBy_38 : decode cX2_pullsBy 38 = .ok (.bipush 9, 2) := by decide +kernel
theorem dX2_pullsBy_40 : decode cX2_pullsBy 40 = .ok (.idiv, 1) := by decide +kernel
theorem dX2_pullsBy_41 : decode cX2_pullsBy 41 = .ok (.istore_n 3, 1) := by decide +kernel
theorem dX2_pullsBy_42 : decode cX2_pullsBy 42 = .ok (.iload_n 3, 1) := by decide +kernel
theorem dX2_pullsBy_43 : decode cX2_pullsBy 43 = .ok (.bipush (-9), 2) := by decide +kernel
theorem dX2_pullsBy_45 : decode cX2_pullsBy 45 = .ok (.bipush 9, 2) := by decide +kernel
theorem dX2_pullsBy_47 : decode cX2_pullsBy 47 = .ok (.invokestatic 88, 3) := by decide +kernel
theorem dX2_pullsBy_50 : decode cX2_pullsBy 50 = .ok (.ireturn, 1) := by decide +kernel
theorem dX2_fraysBy_0 : decode cX2_fraysBy 0 = .ok (.aload_n 1, 1) := by decide +kernel
theorem dX2_fraysBy_1 : decode cX2_fraysBy 1 = .ok (.getfield 92, 3) := by decide +kernel
theorem dX2_fraysBy_4 : decode cX2_fraysBy 4 = .ok (.getfield 78, 3) := by decide +kernel
theorem dX2_fraysBy_7 : decode cX2_fraysBy 7 = .ok (.ifCond .eq 16, 3) := by decide +kernel
theorem dX2_fraysBy_10 : decode cX2_fraysBy 10 = .ok (.aload_n 1, 1) := by decide +kernel
theorem dX2_fraysBy_11 : decode cX2_fraysBy 11 = .ok (.aload_n 1, 1) := by decide +kernel
theorem dX2_fraysBy_12 : decode cX2_fraysBy 12 = .ok (.getfield 92, 3) := by decide +kernel
theorem dX2_fraysBy_15 : decode cX2_fraysBy 15 = .ok (.aload_n 0, 1) := by decide +kernel
theorem dX2_fraysBy_16 : decode cX2_fraysBy 16 = .ok (.iload_n 2, 1) := by decide +kernel
theorem dX2_fraysBy_17 : decode cX2_fraysBy 17 = .ok (.invokevirtual 84, 3) := by decide +kernel
theorem dX2_fraysBy_20 : decode cX2_fraysBy 20 = .ok (.goto 8, 3) := by decide +kernel
theorem dX2_fraysBy_23 : decode cX2_fraysBy 23 = .ok (.aload_n 0, 1) := by decide +kernel
theorem dX2_fraysBy_24 : decode cX2_fraysBy 24 = .ok (.iload_n 2, 1) := by decide +kernel
theorem dX2_fraysBy_25 : decode cX2_fraysBy 25 = .ok (.invokevirtual 95, 3) := by decide +kernel
theorem dX2_fraysBy_28 : decode cX2_fraysBy 28 = .ok (.istore_n 3, 1) := by decide +kernel
theorem dX2_fraysBy_29 : decode cX2_fraysBy 29 = .ok (.iload_n 3, 1) := by decide +kernel
theorem dX2_fraysBy_30 : decode cX2_fraysBy 30 = .ok (.iconst 0, 1) := by decide +kernel
theorem dX2_fraysBy_31 : decode cX2_fraysBy 31 = .ok (.bipush 20, 2) := by decide +kernel
theorem dX2_fraysBy_33 : decode cX2_fraysBy 33 = .ok (.invokestatic 88, 3) := by decide +kernel
theorem dX2_fraysBy_36 : decode cX2_fraysBy 36 = .ok (.ireturn, 1) := by decide +kernel
theorem dX2_fraysUntold_0 : decode cX2_fraysUntold 0 = .ok (.aload_n 0, 1) := by decide +kernel
theorem dX2_fraysUntold_1 : decode cX2_fraysUntold 1 = .ok (.getfield 9, 3) := by decide +kernel
theorem dX2_fraysUntold_4 : decode cX2_fraysUntold 4 = .ok (.iload_n 1, 1) := by decide +kernel
theorem dX2_fraysUntold_5 : decode cX2_fraysUntold 5 = .ok (.iaload, 1) := by decide +kernel
theorem dX2_fraysUntold_6 : decode cX2_fraysUntold 6 = .ok (.bipush 9, 2) := by decide +kernel
theorem dX2_fraysUntold_8 : decode cX2_fraysUntold 8 = .ok (.idiv, 1) := by decide +kernel
theorem dX2_fraysUntold_9 : decode cX2_fraysUntold 9 = .ok (.istore_n 2, 1) := by decide +kernel
theorem dX2_fraysUntold_10 : decode cX2_fraysUntold 10 = .ok (.aload_n 0, 1) := by decide +kernel
theorem dX2_fraysUntold_11 : decode cX2_fraysUntold 11 = .ok (.getfield 18, 3) := by decide +kernel
theorem dX2_fraysUntold_14 : decode cX2_fraysUntold 14 = .ok (.iload_n 1, 1) := by decide +kernel
theorem dX2_fraysUntold_15 : decode cX2_fraysUntold 15 = .ok (.iaload, 1) := by decide +kernel
theorem dX2_fraysUntold_16 : decode cX2_fraysUntold 16 = .ok (.iconst 1, 1) := by decide +kernel
theorem dX2_fraysUntold_17 : decode cX2_fraysUntold 17 = .ok (.if_icmp .ne 7, 3) := by decide +kernel
theorem dX2_fraysUntold_20 : decode cX2_fraysUntold 20 = .ok (.iload_n 2, 1) := by decide +kernel
theorem dX2_fraysUntold_21 : decode cX2_fraysUntold 21 = .ok (.iconst 2, 1) := by decide +kernel
theorem dX2_fraysUntold_22 : decode cX2_fraysUntold 22 = .ok (.idiv, 1) := by decide +kernel
theorem dX2_fraysUntold_23 : decode cX2_fraysUntold 23 = .ok (.ireturn, 1) := by decide +kernel
theorem dX2_fraysUntold_24 : decode cX2_fraysUntold 24 = .ok (.aload_n 0, 1) := by decide +kernel
theorem dX2_fraysUntold_25 : decode cX2_fraysUntold 25 = .ok (.getfield 18, 3) := by decide +kernel
theorem dX2_fraysUntold_28 : decode cX2_fraysUntold 28 = .ok (.iload_n 1, 1) := by decide +kernel
theorem dX2_fraysUntold_29 : decode cX2_fraysUntold 29 = .ok (.iaload, 1) := by decide +kernel
theorem dX2_fraysUntold_30 : decode cX2_fraysUntold 30 = .ok (.iconst 2, 1) := by decide +kernel
theorem dX2_fraysUntold_31 : decode cX2_fraysUntold 31 = .ok (.if_icmp .ne 9, 3) := by decide +kernel
theorem dX2_fraysUntold_34 : decode cX2_fraysUntold 34 = .ok (.iload_n 2, 1) := by decide +kernel
theorem dX2_fraysUntold_35 : decode cX2_fraysUntold 35 = .ok (.iconst 3, 1) := by decide +kernel
theorem dX2_fraysUntold_36 : decode cX2_fraysUntold 36 = .ok (.idiv, 1) := by decide +kernel
theorem dX2_fraysUntold_37 : decode cX2_fraysUntold 37 = .ok (.goto 4, 3) := by decide +kernel
theorem dX2_fraysUntold_40 : decode cX2_fraysUntold 40 = .ok (.iload_n 2, 1) := by decide +kernel
theorem dX2_fraysUntold_41 : decode cX2_fraysUntold 41 = .ok (.ireturn, 1) := by decide +kernel
theorem dX2_passDays_0 : decode cX2_passDays 0 = .ok (.iconst 0, 1) := by decide +kernel
theorem dX2_passDays_1 : decode cX2_passDays 1 = .ok (.istore_n 3, 1) := by decide +kernel
theorem dX2_passDays_2 : decode cX2_passDays 2 = .ok (.iload_n 3, 1) := by decide +kernel
theorem dX2_passDays_3 : decode cX2_passDays 3 = .ok (.iload_n 2, 1) := by decide +kernel
theorem dX2_passDays_4 : decode cX2_passDays 4 = .ok (.if_icmp .ge 14, 3) := by decide +kernel
theorem dX2_passDays_7 : decode cX2_passDays 7 = .ok (.aload_n 0, 1) := by decide +kernel
theorem dX2_passDays_8 : decode cX2_passDays 8 = .ok (.aload_n 1, 1) := by decide +kernel
theorem dX2_passDays_9 : decode cX2_passDays 9 = .ok (.invokevirtual 98, 3) := by decide +kernel
theorem dX2_passDays_12 : decode cX2_passDays 12 = .ok (.iinc 3 1, 3) := by decide +kernel
theorem dX2_passDays_15 : decode cX2_passDays 15 = .ok (.goto (-13), 3) := by decide +kernel
theorem dX2_passDays_18 : decode cX2_passDays 18 = .ok (.return_, 1) := by decide +kernel
theorem dX2_passDay_0 : decode cX2_passDay 0 = .ok (.iconst 0, 1) := by decide +kernel
theorem dX2_passDay_1 : decode cX2_passDay 1 = .ok (.istore_n 2, 1) := by decide +kernel
theorem dX2_passDay_2 : decode cX2_passDay 2 = .ok (.iload_n 2, 1) := by decide +kernel
theorem dX2_passDay_3 : decode cX2_passDay 3 = .ok (.aload_n 1, 1) := by decide +kernel
theorem dX2_passDay_4 : decode cX2_passDay 4 = .ok (.getfield 40, 3) := by decide +kernel
theorem dX2_passDay_7 : decode cX2_passDay 7 = .ok (.if_icmp .ge 51, 3) := by decide +kernel
theorem dX2_passDay_10 : decode cX2_passDay 10 = .ok (.aload_n 0, 1) := by decide +kernel
theorem dX2_passDay_11 : decode cX2_passDay 11 = .ok (.getfield 27, 3) := by decide +kernel
theorem dX2_passDay_14 : decode cX2_passDay 14 = .ok (.iload_n 2, 1) := by decide +kernel
theorem dX2_passDay_15 : decode cX2_passDay 15 = .ok (.aload_n 0, 1) := by decide +kernel
theorem dX2_passDay_16 : decode cX2_passDay 16 = .ok (.iload_n 2, 1) := by decide +kernel
theorem dX2_passDay_17 : decode cX2_passDay 17 = .ok (.invokevirtual 102, 3) := by decide +kernel
theorem dX2_passDay_20 : decode cX2_passDay 20 = .ok (.ifCond .eq 12, 3) := by decide +kernel
theorem dX2_passDay_23 : decode cX2_passDay 23 = .ok (.aload_n 0, 1) := by decide +kernel
theorem dX2_passDay_24 : decode cX2_passDay 24 = .ok (.getfield 9, 3) := by decide +kernel
theorem dX2_passDay_27 : decode cX2_passDay 27 = .ok (.iload_n 2, 1) := by decide +kernel
theorem dX2_passDay_28 : decode cX2_passDay 28 = .ok (.iaload, 1) := by decide +kernel
theorem dX2_passDay_29 : decode cX2_passDay 29 = .ok (.goto 22, 3) := by decide +kernel
theorem dX2_passDay_32 : decode cX2_passDay 32 = .ok (.aload_n 0, 1) := by decide +kernel
theorem dX2_passDay_33 : decode cX2_passDay 33 = .ok (.getfield 9, 3) := by decide +kernel
theorem dX2_passDay_36 : decode cX2_passDay 36 = .ok (.iload_n 2, 1) := by decide +kernel
theorem dX2_passDay_37 : decode cX2_passDay 37 = .ok (.iaload, 1) := by decide +kernel
theorem dX2_passDay_38 : decode cX2_passDay 38 = .ok (.aload_n 0, 1) := by decide +kernel
theorem dX2_passDay_39 : decode cX2_passDay 39 = .ok (.aload_n 1, 1) := by decide +kernel
theorem dX2_passDay_40 : decode cX2_passDay 40 = .ok (.iload_n 2, 1) := by decide +kernel
theorem dX2_passDay_41 : decode cX2_passDay 41 = .ok (.invokevirtual 106, 3) := by decide +kernel
theorem dX2_passDay_44 : decode cX2_passDay 44 = .ok (.iadd, 1) := by decide +kernel
theorem dX2_passDay_45 : decode cX2_passDay 45 = .ok (.iconst 0, 1) := by decide +kernel
theorem dX2_passDay_46 : decode cX2_passDay 46 = .ok (.bipush 99, 2) := by decide +kernel
theorem dX2_passDay_48 : decode cX2_passDay 48 = .ok (.invokestatic 88, 3) := by decide +kernel
theorem dX2_passDay_51 : decode cX2_passDay 51 = .ok (.iastore, 1) := by decide +kernel
theorem dX2_passDay_52 : decode cX2_passDay 52 = .ok (.iinc 2 1, 3) := by decide +kernel
theorem dX2_passDay_55 : decode cX2_passDay 55 = .ok (.goto (-53), 3) := by decide +kernel
theorem dX2_passDay_58 : decode cX2_passDay 58 = .ok (.aload_n 0, 1) := by decide +kernel
theorem dX2_passDay_59 : decode cX2_passDay 59 = .ok (.getfield 27, 3) := by decide +kernel
theorem dX2_passDay_62 : decode cX2_passDay 62 = .ok (.iconst 0, 1) := by decide +kernel
theorem dX2_passDay_63 : decode cX2_passDay 63 = .ok (.aload_n 0, 1) := by decide +kernel
theorem dX2_passDay_64 : decode cX2_passDay 64 = .ok (.getfield 9, 3) := by decide +kernel
theorem dX2_passDay_67 : decode cX2_passDay 67 = .ok (.iconst 0, 1) := by decide +kernel
theorem dX2_passDay_68 : decode cX2_passDay 68 = .ok (.aload_n 1, 1) := by decide +kernel
theorem dX2_passDay_69 : decode cX2_passDay 69 = .ok (.getfield 40, 3) := by decide +kernel
theorem dX2_passDay_72 : decode cX2_passDay 72 = .ok (.invokestatic 34, 3) := by decide +kernel
theorem dX2_passDay_75 : decode cX2_passDay 75 = .ok (.iconst 0, 1) := by decide +kernel
theorem dX2_passDay_76 : decode cX2_passDay 76 = .ok (.istore_n 2, 1) := by decide +kernel
theorem dX2_passDay_77 : decode cX2_passDay 77 = .ok (.iload_n 2, 1) := by decide +kernel
theorem dX2_passDay_78 : decode cX2_passDay 78 = .ok (.aload_n 1, 1) := by decide +kernel
theorem dX2_passDay_79 : decode cX2_passDay 79 = .ok (.getfield 40, 3) := by decide +kernel
theorem dX2_passDay_82 : decode cX2_passDay 82 = .ok (.if_icmp .ge 29, 3) := by decide +kernel
theorem dX2_passDay_85 : decode cX2_passDay 85 = .ok (.aload_n 0, 1) := by decide +kernel
theorem dX2_passDay_86 : decode cX2_passDay 86 = .ok (.iload_n 2, 1) := by decide +kernel
theorem dX2_passDay_87 : decode cX2_passDay 87 = .ok (.invokevirtual 102, 3) := by decide +kernel
theorem dX2_passDay_90 : decode cX2_passDay 90 = .ok (.ifCond .ne 15, 3) := by decide +kernel
theorem dX2_passDay_93 : decode cX2_passDay 93 = .ok (.aload_n 0, 1) := by decide +kernel
theorem dX2_passDay_94 : decode cX2_passDay 94 = .ok (.aload_n 1, 1) := by decide +kernel
theorem dX2_passDay_95 : decode cX2_passDay 95 = .ok (.iload_n 2, 1) := by decide +kernel
theorem dX2_passDay_96 : decode cX2_passDay 96 = .ok (.aload_n 0, 1) := by decide +kernel
theorem dX2_passDay_97 : decode cX2_passDay 97 = .ok (.aload_n 1, 1) := by decide +kernel
theorem dX2_passDay_98 : decode cX2_passDay 98 = .ok (.iload_n 2, 1) := by decide +kernel
theorem dX2_passDay_99 : decode cX2_passDay 99 = .ok (.invokevirtual 109, 3) := by decide +kernel
theorem dX2_passDay_102 : decode cX2_passDay 102 = .ok (.invokevirtual 112, 3) := by decide +kernel
theorem dX2_passDay_105 : decode cX2_passDay 105 = .ok (.iinc 2 1, 3) := by decide +kernel
theorem dX2_passDay_108 : decode cX2_passDay 108 = .ok (.goto (-31), 3) := by decide +kernel
theorem dX2_passDay_111 : decode cX2_passDay 111 = .ok (.aload_n 1, 1) := by decide +kernel
theorem dX2_passDay_112 : decode cX2_passDay 112 = .ok (.aload_n 0, 1) := by decide +kernel
theorem dX2_passDay_113 : decode cX2_passDay 113 = .ok (.getfield 30, 3) := by decide +kernel
theorem dX2_passDay_116 : decode cX2_passDay 116 = .ok (.invokevirtual 116, 3) := by decide +kernel
theorem dX2_passDay_119 : decode cX2_passDay 119 = .ok (.ifCond .eq 8, 3) := by decide +kernel
theorem dX2_passDay_122 : decode cX2_passDay 122 = .ok (.aload_n 0, 1) := by decide +kernel
theorem dX2_passDay_123 : decode cX2_passDay 123 = .ok (.aload_n 1, 1) := by decide +kernel
theorem dX2_passDay_124 : decode cX2_passDay 124 = .ok (.invokevirtual 119, 3) := by decide +kernel
theorem dX2_passDay_127 : decode cX2_passDay 127 = .ok (.aload_n 0, 1) := by decide +kernel
theorem dX2_passDay_128 : decode cX2_passDay 128 = .ok (.dup, 1) := by decide +kernel
theorem dX2_passDay_129 : decode cX2_passDay 129 = .ok (.getfield 30, 3) := by decide +kernel
theorem dX2_passDay_132 : decode cX2_passDay 132 = .ok (.iconst 1, 1) := by decide +kernel
theorem dX2_passDay_133 : decode cX2_passDay 133 = .ok (.iadd, 1) := by decide +kernel
theorem dX2_passDay_134 : decode cX2_passDay 134 = .ok (.putfield 30, 3) := by decide +kernel
theorem dX2_passDay_137 : decode cX2_passDay 137 = .ok (.return_, 1) := by decide +kernel
theorem dX2_mendAll_0 : decode cX2_mendAll 0 = .ok (.iconst 0, 1) := by decide +kernel
theorem dX2_mendAll_1 : decode cX2_mendAll 1 = .ok (.istore_n 2, 1) := by decide +kernel
theorem dX2_mendAll_2 : decode cX2_mendAll 2 = .ok (.iload_n 2, 1) := by decide +kernel
theorem dX2_mendAll_3 : decode cX2_mendAll 3 = .ok (.aload_n 1, 1) := by decide +kernel
theorem dX2_mendAll_4 : decode cX2_mendAll 4 = .ok (.getfield 45, 3) := by decide +kernel
theorem dX2_mendAll_7 : decode cX2_mendAll 7 = .ok (.if_icmp .ge 21, 3) := by decide +kernel
theorem dX2_mendAll_10 : decode cX2_mendAll 10 = .ok (.aload_n 0, 1) := by decide +kernel
theorem dX2_mendAll_11 : decode cX2_mendAll 11 = .ok (.aload_n 1, 1) := by decide +kernel
theorem dX2_mendAll_12 : decode cX2_mendAll 12 = .ok (.iload_n 2, 1) := by decide +kernel
theorem dX2_mendAll_13 : decode cX2_mendAll 13 = .ok (.invokevirtual 122, 3) := by decide +kernel
theorem dX2_mendAll_16 : decode cX2_mendAll 16 = .ok (.aload_n 0, 1) := by decide +kernel
theorem dX2_mendAll_17 : decode cX2_mendAll 17 = .ok (.aload_n 1, 1) := by decide +kernel
theorem dX2_mendAll_18 : decode cX2_mendAll 18 = .ok (.iload_n 2, 1) := by decide +kernel
theorem dX2_mendAll_19 : decode cX2_mendAll 19 = .ok (.invokevirtual 126, 3) := by decide +kernel
theorem dX2_mendAll_22 : decode cX2_mendAll 22 = .ok (.iinc 2 1, 3) := by decide +kernel
theorem dX2_mendAll_25 : decode cX2_mendAll 25 = .ok (.goto (-23), 3) := by decide +kernel
theorem dX2_mendAll_28 : decode cX2_mendAll 28 = .ok (.return_, 1) := by decide +kernel
theorem dX2_wear_0 : decode cX2_wear 0 = .ok (.aload_n 0, 1) := by decide +kernel
theorem dX2_wear_1 : decode cX2_wear 1 = .ok (.getfield 15, 3) := by decide +kernel
theorem dX2_wear_4 : decode cX2_wear 4 = .ok (.iload_n 2, 1) := by decide +kernel
theorem dX2_wear_5 : decode cX2_wear 5 = .ok (.iconst 0, 1) := by decide +kernel
theorem dX2_wear_6 : decode cX2_wear 6 = .ok (.aload_n 0, 1) := by decide +kernel
theorem dX2_wear_7 : decode cX2_wear 7 = .ok (.getfield 15, 3) := by decide +kernel
theorem dX2_wear_10 : decode cX2_wear 10 = .ok (.iload_n 2, 1) := by decide +kernel
theorem dX2_wear_11 : decode cX2_wear 11 = .ok (.iaload, 1) := by decide +kernel
theorem dX2_wear_12 : decode cX2_wear 12 = .ok (.iload_n 3, 1) := by decide +kernel
theorem dX2_wear_13 : decode cX2_wear 13 = .ok (.isub, 1) := by decide +kernel
theorem dX2_wear_14 : decode cX2_wear 14 = .ok (.invokestatic 56, 3) := by decide +kernel
theorem dX2_wear_17 : decode cX2_wear 17 = .ok (.iastore, 1) := by decide +kernel
theorem dX2_wear_18 : decode cX2_wear 18 = .ok (.aload_n 0, 1) := by decide +kernel
theorem dX2_wear_19 : decode cX2_wear 19 = .ok (.getfield 15, 3) := by decide +kernel
theorem dX2_wear_22 : decode cX2_wear 22 = .ok (.iload_n 2, 1) := by decide +kernel
theorem dX2_wear_23 : decode cX2_wear 23 = .ok (.iaload, 1) := by decide +kernel
theorem dX2_wear_24 : decode cX2_wear 24 = .ok (.ifCond .ne 42, 3) := by decide +kernel
theorem dX2_wear_27 : decode cX2_wear 27 = .ok (.aload_n 0, 1) := by decide +kernel
theorem dX2_wear_28 : decode cX2_wear 28 = .ok (.getfield 9, 3) := by decide +kernel
theorem dX2_wear_31 : decode cX2_wear 31 = .ok (.iload_n 2, 1) := by decide +kernel
theorem dX2_wear_32 : decode cX2_wear 32 = .ok (.iaload, 1) := by decide +kernel
theorem dX2_wear_33 : decode cX2_wear 33 = .ok (.iconst 2, 1) := by decide +kernel
theorem dX2_wear_34 : decode cX2_wear 34 = .ok (.idiv, 1) := by decide +kernel
theorem dX2_wear_35 : decode cX2_wear 35 = .ok (.istore 4, 2) := by decide +kernel
theorem dX2_wear_37 : decode cX2_wear 37 = .ok (.aload_n 0, 1) := by decide +kernel
theorem dX2_wear_38 : decode cX2_wear 38 = .ok (.aload_n 1, 1) := by decide +kernel
theorem dX2_wear_39 : decode cX2_wear 39 = .ok (.iload_n 2, 1) := by decide +kernel
theorem dX2_wear_40 : decode cX2_wear 40 = .ok (.invokevirtual 129, 3) := by decide +kernel
theorem dX2_wear_43 : decode cX2_wear 43 = .ok (.iload 4, 2) := by decide +kernel
theorem dX2_wear_45 : decode cX2_wear 45 = .ok (.invokevirtual 132, 3) := by decide +kernel
theorem dX2_wear_48 : decode cX2_wear 48 = .ok (.aload_n 0, 1) := by decide +kernel
theorem dX2_wear_49 : decode cX2_wear 49 = .ok (.aload_n 1, 1) := by decide +kernel
theorem dX2_wear_50 : decode cX2_wear 50 = .ok (.iload_n 2, 1) := by decide +kernel
theorem dX2_wear_51 : decode cX2_wear 51 = .ok (.invokevirtual 136, 3) := by decide +kernel
theorem dX2_wear_54 : decode cX2_wear 54 = .ok (.iload 4, 2) := by decide +kernel
theorem dX2_wear_56 : decode cX2_wear 56 = .ok (.invokevirtual 132, 3) := by decide +kernel
theorem dX2_wear_59 : decode cX2_wear 59 = .ok (.aload_n 0, 1) := by decide +kernel
theorem dX2_wear_60 : decode cX2_wear 60 = .ok (.getfield 9, 3) := by decide +kernel
theorem dX2_wear_63 : decode cX2_wear 63 = .ok (.iload_n 2, 1) := by decide +kernel
theorem dX2_wear_64 : decode cX2_wear 64 = .ok (.iconst 0, 1) := by decide +kernel
theorem dX2_wear_65 : decode cX2_wear 65 = .ok (.iastore, 1) := by decide +kernel
theorem dX2_wear_66 : decode cX2_wear 66 = .ok (.return_, 1) := by decide +kernel
theorem dX2_strainIfClosed_0 : decode cX2_strainIfClosed 0 = .ok (.aload_n 0, 1) := by decide +kernel
theorem dX2_strainIfClosed_1 : decode cX2_strainIfClosed 1 = .ok (.iload_n 1, 1) := by decide +kernel
theorem dX2_strainIfClosed_2 : decode cX2_strainIfClosed 2 = .ok (.invokevirtual 102, 3) := by decide +kernel
theorem dX2_strainIfClosed_5 : decode cX2_strainIfClosed 5 = .ok (.ifCond .ne 9, 3) := by decide +kernel
theorem dX2_strainIfClosed_8 : decode cX2_strainIfClosed 8 = .ok (.aload_n 0, 1) := by decide +kernel
theorem dX2_strainIfClosed_9 : decode cX2_strainIfClosed 9 = .ok (.iload_n 1, 1) := by decide +kernel
theorem dX2_strainIfClosed_10 : decode cX2_strainIfClosed 10 = .ok (.iload_n 2, 1) := by decide +kernel
theorem dX2_strainIfClosed_11 : decode cX2_strainIfClosed 11 = .ok (.invokevirtual 139, 3) := by decide +kernel
theorem dX2_strainIfClosed_14 : decode cX2_strainIfClosed 14 = .ok (.return_, 1) := by decide +kernel
theorem dX2_tearOff_0 : decode cX2_tearOff 0 = .ok (.aload_n 0, 1) := by decide +kernel
theorem dX2_tearOff_1 : decode cX2_tearOff 1 = .ok (.iload_n 2, 1) := by decide +kernel
theorem dX2_tearOff_2 : decode cX2_tearOff 2 = .ok (.invokevirtual 102, 3) := by decide +kernel
theorem dX2_tearOff_5 : decode cX2_tearOff 5 = .ok (.ifCond .ne 10, 3) := by decide +kernel
theorem dX2_tearOff_8 : decode cX2_tearOff 8 = .ok (.aload_n 0, 1) := by decide +kernel
theorem dX2_tearOff_9 : decode cX2_tearOff 9 = .ok (.aload_n 1, 1) := by decide +kernel
theorem dX2_tearOff_10 : decode cX2_tearOff 10 = .ok (.iload_n 2, 1) := by decide +kernel
theorem dX2_tearOff_11 : decode cX2_tearOff 11 = .ok (.iload_n 3, 1) := by decide +kernel
theorem dX2_tearOff_12 : decode cX2_tearOff 12 = .ok (.invokevirtual 112, 3) := by decide +kernel
theorem dX2_tearOff_15 : decode cX2_tearOff 15 = .ok (.return_, 1) := by decide +kernel
theorem dX2_addStrain_0 : decode cX2_addStrain 0 = .ok (.aload_n 0, 1) := by decide +kernel
theorem dX2_addStrain_1 : decode cX2_addStrain 1 = .ok (.getfield 9, 3) := by decide +kernel
theorem dX2_addStrain_4 : decode cX2_addStrain 4 = .ok (.iload_n 1, 1) := by decide +kernel
theorem dX2_addStrain_5 : decode cX2_addStrain 5 = .ok (.bipush 99, 2) := by decide +kernel
theorem dX2_addStrain_7 : decode cX2_addStrain 7 = .ok (.aload_n 0, 1) := by decide +kernel
theorem dX2_addStrain_8 : decode cX2_addStrain 8 = .ok (.getfield 9, 3) := by decide +kernel
theorem dX2_addStrain_11 : decode cX2_addStrain 11 = .ok (.iload_n 1, 1) := by decide +kernel
theorem dX2_addStrain_12 : decode cX2_addStrain 12 = .ok (.iaload, 1) := by decide +kernel
theorem dX2_addStrain_13 : decode cX2_addStrain 13 = .ok (.iload_n 2, 1) := by decide +kernel
theorem dX2_addStrain_14 : decode cX2_addStrain 14 = .ok (.iadd, 1) := by decide +kernel
theorem dX2_addStrain_15 : decode cX2_addStrain 15 = .ok (.invokestatic 62, 3) := by decide +kernel
theorem dX2_addStrain_18 : decode cX2_addStrain 18 = .ok (.iastore, 1) := by decide +kernel
theorem dX2_addStrain_19 : decode cX2_addStrain 19 = .ok (.return_, 1) := by decide +kernel
theorem dX2_gale_0 : decode cX2_gale 0 = .ok (.iconst 0, 1) := by decide +kernel
theorem dX2_gale_1 : decode cX2_gale 1 = .ok (.istore_n 2, 1) := by decide +kernel
theorem dX2_gale_2 : decode cX2_gale 2 = .ok (.iload_n 2, 1) := by decide +kernel
theorem dX2_gale_3 : decode cX2_gale 3 = .ok (.aload_n 1, 1) := by decide +kernel
theorem dX2_gale_4 : decode cX2_gale 4 = .ok (.getfield 40, 3) := by decide +kernel
theorem dX2_gale_7 : decode cX2_gale 7 = .ok (.if_icmp .ge 16, 3) := by decide +kernel
theorem dX2_gale_10 : decode cX2_gale 10 = .ok (.aload_n 0, 1) := by decide +kernel
theorem dX2_gale_11 : decode cX2_gale 11 = .ok (.iload_n 2, 1) := by decide +kernel
theorem dX2_gale_12 : decode cX2_gale 12 = .ok (.bipush 15, 2) := by decide +kernel
theorem dX2_gale_14 : decode cX2_gale 14 = .ok (.invokevirtual 132, 3) := by decide +kernel
theorem dX2_gale_17 : decode cX2_gale 17 = .ok (.iinc 2 1, 3) := by decide +kernel
theorem dX2_gale_20 : decode cX2_gale 20 = .ok (.goto (-18), 3) := by decide +kernel
theorem dX2_gale_23 : decode cX2_gale 23 = .ok (.return_, 1) := by decide +kernel
theorem dX2_giveThread_0 : decode cX2_giveThread 0 = .ok (.aload_n 0, 1) := by decide +kernel
theorem dX2_giveThread_1 : decode cX2_giveThread 1 = .ok (.getfield 24, 3) := by decide +kernel
theorem dX2_giveThread_4 : decode cX2_giveThread 4 = .ok (.iload_n 1, 1) := by decide +kernel
theorem dX2_giveThread_5 : decode cX2_giveThread 5 = .ok (.bipush 99, 2) := by decide +kernel
theorem dX2_giveThread_7 : decode cX2_giveThread 7 = .ok (.aload_n 0, 1) := by decide +kernel
theorem dX2_giveThread_8 : decode cX2_giveThread 8 = .ok (.getfield 24, 3) := by decide +kernel
theorem dX2_giveThread_11 : decode cX2_giveThread 11 = .ok (.iload_n 1, 1) := by decide +kernel
theorem dX2_giveThread_12 : decode cX2_giveThread 12 = .ok (.iaload, 1) := by decide +kernel
theorem dX2_giveThread_13 : decode cX2_giveThread 13 = .ok (.iload_n 2, 1) := by decide +kernel
theorem dX2_giveThread_14 : decode cX2_giveThread 14 = .ok (.iadd, 1) := by decide +kernel
theorem dX2_giveThread_15 : decode cX2_giveThread 15 = .ok (.invokestatic 62, 3) := by decide +kernel
theorem dX2_giveThread_18 : decode cX2_giveThread 18 = .ok (.iastore, 1) := by decide +kernel
theorem dX2_giveThread_19 : decode cX2_giveThread 19 = .ok (.return_, 1) := by decide +kernel
theorem dX2_mendBy_0 : decode cX2_mendBy 0 = .ok (.aload_n 0, 1) := by decide +kernel
theorem dX2_mendBy_1 : decode cX2_mendBy 1 = .ok (.getfield 21, 3) := by decide +kernel
theorem dX2_mendBy_4 : decode cX2_mendBy 4 = .ok (.iload_n 2, 1) := by decide +kernel
theorem dX2_mendBy_5 : decode cX2_mendBy 5 = .ok (.iaload, 1) := by decide +kernel
theorem dX2_mendBy_6 : decode cX2_mendBy 6 = .ok (.istore_n 3, 1) := by decide +kernel
theorem dX2_mendBy_7 : decode cX2_mendBy 7 = .ok (.aload_n 0, 1) := by decide +kernel
theorem dX2_mendBy_8 : decode cX2_mendBy 8 = .ok (.getfield 24, 3) := by decide +kernel
theorem dX2_mendBy_11 : decode cX2_mendBy 11 = .ok (.iload_n 2, 1) := by decide +kernel
theorem dX2_mendBy_12 : decode cX2_mendBy 12 = .ok (.iaload, 1) := by decide +kernel
theorem dX2_mendBy_13 : decode cX2_mendBy 13 = .ok (.ifCond .le 51, 3) := by decide +kernel
theorem dX2_mendBy_16 : decode cX2_mendBy 16 = .ok (.iload_n 3, 1) := by decide +kernel
theorem dX2_mendBy_17 : decode cX2_mendBy 17 = .ok (.ifCond .lt 47, 3) := by decide +kernel
theorem dX2_mendBy_20 : decode cX2_mendBy 20 = .ok (.iload_n 3, 1) := by decide +kernel
theorem dX2_mendBy_21 : decode cX2_mendBy 21 = .ok (.bipush 12, 2) := by decide +kernel
theorem dX2_mendBy_23 : decode cX2_mendBy 23 = .ok (.if_icmp .ge 41, 3) := by decide +kernel
theorem dX2_mendBy_26 : decode cX2_mendBy 26 = .ok (.aload_n 0, 1) := by decide +kernel
theorem dX2_mendBy_27 : decode cX2_mendBy 27 = .ok (.getfield 24, 3) := by decide +kernel
theorem dX2_mendBy_30 : decode cX2_mendBy 30 = .ok (.iload_n 2, 1) := by decide +kernel
theorem dX2_mendBy_31 : decode cX2_mendBy 31 = .ok (.dup2, 1) := by decide +kernel
theorem dX2_mendBy_32 : decode cX2_mendBy 32 = .ok (.iaload, 1) := by decide +kernel
theorem dX2_mendBy_33 : decode cX2_mendBy 33 = .ok (.iconst 1, 1) := by decide +kernel
theorem dX2_mendBy_34 : decode cX2_mendBy 34 = .ok (.isub, 1) := by decide +kernel
theorem dX2_mendBy_35 : decode cX2_mendBy 35 = .ok (.iastore, 1) := by decide +kernel
theorem dX2_mendBy_36 : decode cX2_mendBy 36 = .ok (.aload_n 0, 1) := by decide +kernel
theorem dX2_mendBy_37 : decode cX2_mendBy 37 = .ok (.getfield 15, 3) := by decide +kernel
theorem dX2_mendBy_40 : decode cX2_mendBy 40 = .ok (.iload_n 3, 1) := by decide +kernel
theorem dX2_mendBy_41 : decode cX2_mendBy 41 = .ok (.bipush 99, 2) := by decide +kernel
theorem dX2_mendBy_43 : decode cX2_mendBy 43 = .ok (.aload_n 0, 1) := by decide +kernel
theorem dX2_mendBy_44 : decode cX2_mendBy 44 = .ok (.getfield 15, 3) := by decide +kernel
theorem dX2_mendBy_47 : decode cX2_mendBy 47 = .ok (.iload_n 3, 1) := by decide +kernel
theorem dX2_mendBy_48 : decode cX2_mendBy 48 = .ok (.iaload, 1) := by decide +kernel
theorem dX2_mendBy_49 : decode cX2_mendBy 49 = .ok (.iconst 2, 1) := by decide +kernel
theorem dX2_mendBy_50 : decode cX2_mendBy 50 = .ok (.aload_n 1, 1) := by decide +kernel
theorem dX2_mendBy_51 : decode cX2_mendBy 51 = .ok (.getfield 142, 3) := by decide +kernel
theorem dX2_mendBy_54 : decode cX2_mendBy 54 = .ok (.iload_n 2, 1) := by decide +kernel
theorem dX2_mendBy_55 : decode cX2_mendBy 55 = .ok (.iaload, 1) := by decide +kernel
theorem dX2_mendBy_56 : decode cX2_mendBy 56 = .ok (.imul, 1) := by decide +kernel
theorem dX2_mendBy_57 : decode cX2_mendBy 57 = .ok (.iadd, 1) := by decide +kernel
theorem dX2_mendBy_58 : decode cX2_mendBy 58 = .ok (.iconst 3, 1) := by decide +kernel
theorem dX2_mendBy_59 : decode cX2_mendBy 59 = .ok (.iadd, 1) := by decide +kernel
theorem dX2_mendBy_60 : decode cX2_mendBy 60 = .ok (.invokestatic 62, 3) := by decide +kernel
theorem dX2_mendBy_63 : decode cX2_mendBy 63 = .ok (.iastore, 1) := by decide +kernel
theorem dX2_mendBy_64 : decode cX2_mendBy 64 = .ok (.return_, 1) := by decide +kernel
theorem dX2_goOn_0 : decode cX2_goOn 0 = .ok (.aload_n 0, 1) := by decide +kernel
theorem dX2_goOn_1 : decode cX2_goOn 1 = .ok (.getfield 21, 3) := by decide +kernel
theorem dX2_goOn_4 : decode cX2_goOn 4 = .ok (.iload_n 2, 1) := by decide +kernel
theorem dX2_goOn_5 : decode cX2_goOn 5 = .ok (.aload_n 1, 1) := by decide +kernel
theorem dX2_goOn_6 : decode cX2_goOn 6 = .ok (.aload_n 0, 1) := by decide +kernel
theorem dX2_goOn_7 : decode cX2_goOn 7 = .ok (.getfield 21, 3) := by decide +kernel
theorem dX2_goOn_10 : decode cX2_goOn 10 = .ok (.iload_n 2, 1) := by decide +kernel
theorem dX2_goOn_11 : decode cX2_goOn 11 = .ok (.iaload, 1) := by decide +kernel
theorem dX2_goOn_12 : decode cX2_goOn 12 = .ok (.invokevirtual 136, 3) := by decide +kernel
theorem dX2_goOn_15 : decode cX2_goOn 15 = .ok (.iastore, 1) := by decide +kernel
theorem dX2_goOn_16 : decode cX2_goOn 16 = .ok (.return_, 1) := by decide +kernel
theorem dX3_init_0 : decode cX3_init 0 = .ok (.aload_n 0, 1) := by decide +kernel
theorem dX3_init_1 : decode cX3_init 1 = .ok (.invokespecial 1, 3) := by decide +kernel
theorem dX3_init_4 : decode cX3_init 4 = .ok (.aload_n 0, 1) := by decide +kernel
theorem dX3_init_5 : decode cX3_init 5 = .ok (.new 7, 3) := by decide +kernel
theorem dX3_init_8 : decode cX3_init 8 = .ok (.dup, 1) := by decide +kernel
theorem dX3_init_9 : decode cX3_init 9 = .ok (.invokespecial 9, 3) := by decide +kernel
theorem dX3_init_12 : decode cX3_init 12 = .ok (.putfield 10, 3) := by decide +kernel
theorem dX3_init_15 : decode cX3_init 15 = .ok (.aload_n 0, 1) := by decide +kernel
theorem dX3_init_16 : decode cX3_init 16 = .ok (.new 16, 3) := by decide +kernel
theorem dX3_init_19 : decode cX3_init 19 = .ok (.dup, 1) := by decide +kernel
theorem dX3_init_20 : decode cX3_init 20 = .ok (.invokespecial 18, 3) := by decide +kernel
theorem dX3_init_23 : decode cX3_init 23 = .ok (.putfield 19, 3) := by decide +kernel
theorem dX3_init_26 : decode cX3_init 26 = .ok (.aload_n 0, 1) := by decide +kernel
theorem dX3_init_27 : decode cX3_init 27 = .ok (.new 23, 3) := by decide +kernel
theorem dX3_init_30 : decode cX3_init 30 = .ok (.dup, 1) := by decide +kernel
theorem dX3_init_31 : decode cX3_init 31 = .ok (.invokespecial 25, 3) := by decide +kernel
theorem dX3_init_34 : decode cX3_init 34 = .ok (.putfield 26, 3) := by decide +kernel
theorem dX3_init_37 : decode cX3_init 37 = .ok (.return_, 1) := by decide +kernel
theorem dX3_copyFrom_0 : decode cX3_copyFrom 0 = .ok (.aload_n 0, 1) := by decide +kernel
theorem dX3_copyFrom_1 : decode cX3_copyFrom 1 = .ok (.getfield 10, 3) := by decide +kernel
theorem dX3_copyFrom_4 : decode cX3_copyFrom 4 = .ok (.aload_n 1, 1) := by decide +kernel
theorem dX3_copyFrom_5 : decode cX3_copyFrom 5 = .ok (.getfield 10, 3) := by decide +kernel
theorem dX3_copyFrom_8 : decode cX3_copyFrom 8 = .ok (.invokevirtual 30, 3) := by decide +kernel
theorem dX3_copyFrom_11 : decode cX3_copyFrom 11 = .ok (.aload_n 0, 1) := by decide +kernel
theorem dX3_copyFrom_12 : decode cX3_copyFrom 12 = .ok (.getfield 19, 3) := by decide +kernel
theorem dX3_copyFrom_15 : decode cX3_copyFrom 15 = .ok (.aload_n 1, 1) := by decide +kernel
theorem dX3_copyFrom_16 : decode cX3_copyFrom 16 = .ok (.getfield 19, 3) := by decide +kernel
theorem dX3_copyFrom_19 : decode cX3_copyFrom 19 = .ok (.invokevirtual 34, 3) := by decide +kernel
theorem dX3_copyFrom_22 : decode cX3_copyFrom 22 = .ok (.aload_n 0, 1) := by decide +kernel
theorem dX3_copyFrom_23 : decode cX3_copyFrom 23 = .ok (.getfield 26, 3) := by decide +kernel
theorem dX3_copyFrom_26 : decode cX3_copyFrom 26 = .ok (.aload_n 1, 1) := by decide +kernel
theorem dX3_copyFrom_27 : decode cX3_copyFrom 27 = .ok (.getfield 26, 3) := by decide +kernel
theorem dX3_copyFrom_30 : decode cX3_copyFrom 30 = .ok (.invokevirtual 37, 3) := by decide +kernel
theorem dX3_copyFrom_33 : decode cX3_copyFrom 33 = .ok (.return_, 1) := by decide +kernel
theorem dX4_init_0 : decode cX4_init 0 = .ok (.aload_n 0, 1) := by decide +kernel
theorem dX4_init_1 : decode cX4_init 1 = .ok (.invokespecial 3, 3) := by decide +kernel
theorem dX4_init_4 : decode cX4_init 4 = .ok (.aload_n 0, 1) := by decide +kernel
theorem dX4_init_5 : decode cX4_init 5 = .ok (.sipush 1960, 3) := by decide +kernel
theorem dX4_init_8 : decode cX4_init 8 = .ok (.newarray .int, 2) := by decide +kernel
theorem dX4_init_10 : decode cX4_init 10 = .ok (.putfield 9, 3) := by decide +kernel
theorem dX4_init_13 : decode cX4_init 13 = .ok (.return_, 1) := by decide +kernel
theorem dX4_clear_0 : decode cX4_clear 0 = .ok (.aload_n 0, 1) := by decide +kernel
theorem dX4_clear_1 : decode cX4_clear 1 = .ok (.iconst 0, 1) := by decide +kernel
theorem dX4_clear_2 : decode cX4_clear 2 = .ok (.putfield 15, 3) := by decide +kernel
theorem dX4_clear_5 : decode cX4_clear 5 = .ok (.aload_n 0, 1) := by decide +kernel
theorem dX4_clear_6 : decode cX4_clear 6 = .ok (.iconst 0, 1) := by decide +kernel
theorem dX4_clear_7 : decode cX4_clear 7 = .ok (.putfield 19, 3) := by decide +kernel
theorem dX4_clear_10 : decode cX4_clear 10 = .ok (.return_, 1) := by decide +kernel
theorem dX4_copyFrom_0 : decode cX4_copyFrom 0 = .ok (.aload_n 0, 1) := by decide +kernel
theorem dX4_copyFrom_1 : decode cX4_copyFrom 1 = .ok (.aload_n 1, 1) := by decide +kernel
theorem dX4_copyFrom_2 : decode cX4_copyFrom 2 = .ok (.getfield 15, 3) := by decide +kernel
theorem dX4_copyFrom_5 : decode cX4_copyFrom 5 = .ok (.putfield 15, 3) := by decide +kernel
theorem dX4_copyFrom_8 : decode cX4_copyFrom 8 = .ok (.aload_n 0, 1) := by decide +kernel
theorem dX4_copyFrom_9 : decode cX4_copyFrom 9 = .ok (.aload_n 1, 1) := by decide +kernel
theorem dX4_copyFrom_10 : decode cX4_copyFrom 10 = .ok (.getfield 19, 3) := by decide +kernel
theorem dX4_copyFrom_13 : decode cX4_copyFrom 13 = .ok (.putfield 19, 3) := by decide +kernel
theorem dX4_copyFrom_16 : decode cX4_copyFrom 16 = .ok (.aload_n 1, 1) := by decide +kernel
theorem dX4_copyFrom_17 : decode cX4_copyFrom 17 = .ok (.getfield 9, 3) := by decide +kernel
theorem dX4_copyFrom_20 : decode cX4_copyFrom 20 = .ok (.iconst 0, 1) := by decide +kernel
theorem dX4_copyFrom_21 : decode cX4_copyFrom 21 = .ok (.aload_n 0, 1) := by decide +kernel
theorem dX4_copyFrom_22 : decode cX4_copyFrom 22 = .ok (.getfield 9, 3) := by decide +kernel
theorem dX4_copyFrom_25 : decode cX4_copyFrom 25 = .ok (.iconst 0, 1) := by decide +kernel
theorem dX4_copyFrom_26 : decode cX4_copyFrom 26 = .ok (.aload_n 0, 1) := by decide +kernel
theorem dX4_copyFrom_27 : decode cX4_copyFrom 27 = .ok (.getfield 9, 3) := by decide +kernel
theorem dX4_copyFrom_30 : decode cX4_copyFrom 30 = .ok (.arraylength, 1) := by decide +kernel
theorem dX4_copyFrom_31 : decode cX4_copyFrom 31 = .ok (.invokestatic 22, 3) := by decide +kernel
theorem dX4_copyFrom_34 : decode cX4_copyFrom 34 = .ok (.return_, 1) := by decide +kernel
theorem dX4_keep_0 : decode cX4_keep 0 = .ok (.aload_n 1, 1) := by decide +kernel
theorem dX4_keep_1 : decode cX4_keep 1 = .ok (.aload_n 0, 1) := by decide +kernel
theorem dX4_keep_2 : decode cX4_keep 2 = .ok (.getfield 9, 3) := by decide +kernel
theorem dX4_keep_5 : decode cX4_keep 5 = .ok (.aload_n 0, 1) := by decide +kernel
theorem dX4_keep_6 : decode cX4_keep 6 = .ok (.aload_n 0, 1) := by decide +kernel
theorem dX4_keep_7 : decode cX4_keep 7 = .ok (.getfield 15, 3) := by decide +kernel
theorem dX4_keep_10 : decode cX4_keep 10 = .ok (.invokevirtual 28, 3) := by decide +kernel
theorem dX4_keep_13 : decode cX4_keep 13 = .ok (.invokevirtual 32, 3) := by decide +kernel
theorem dX4_keep_16 : decode cX4_keep 16 = .ok (.aload_n 0, 1) := by decide +kernel
theorem dX4_keep_17 : decode cX4_keep 17 = .ok (.getfield 15, 3) := by decide +kernel
theorem dX4_keep_20 : decode cX4_keep 20 = .ok (.bipush 40, 2) := by decide +kernel
theorem dX4_keep_22 : decode cX4_keep 22 = .ok (.if_icmp .ge 16, 3) := by decide +kernel
theorem dX4_keep_25 : decode cX4_keep 25 = .ok (.aload_n 0, 1) := by decide +kernel
theorem dX4_keep_26 : decode cX4_keep 26 = .ok (.dup, 1) := by decide +kernel
theorem dX4_keep_27 : decode cX4_keep 27 = .ok (.getfield 15, 3) := by decide +kernel
theorem dX4_keep_30 : decode cX4_keep 30 = .ok (.iconst 1, 1) := by decide +kernel
theorem dX4_keep_31 : decode cX4_keep 31 = .ok (.iadd, 1) := by decide +kernel
theorem dX4_keep_32 : decode cX4_keep 32 = .ok (.putfield 15, 3) := by decide +kernel
theorem dX4_keep_35 : decode cX4_keep 35 = .ok (.goto 16, 3) := by decide +kernel
theorem dX4_keep_38 : decode cX4_keep 38 = .ok (.aload_n 0, 1) := by decide +kernel
theorem dX4_keep_39 : decode cX4_keep 39 = .ok (.aload_n 0, 1) := by decide +kernel
theorem dX4_keep_40 : decode cX4_keep 40 = .ok (.getfield 19, 3) := by decide +kernel
theorem dX4_keep_43 : decode cX4_keep 43 = .ok (.iconst 1, 1) := by decide +kernel
theorem dX4_keep_44 : decode cX4_keep 44 = .ok (.iadd, 1) := by decide +kernel
theorem dX4_keep_45 : decode cX4_keep 45 = .ok (.bipush 40, 2) := by decide +kernel
theorem dX4_keep_47 : decode cX4_keep 47 = .ok (.irem, 1) := by decide +kernel
theorem dX4_keep_48 : decode cX4_keep 48 = .ok (.putfield 19, 3) := by decide +kernel
theorem dX4_keep_51 : decode cX4_keep 51 = .ok (.return_, 1) := by decide +kernel
theorem dX4_takeBack_0 : decode cX4_takeBack 0 = .ok (.aload_n 0, 1) := by decide +kernel
theorem dX4_takeBack_1 : decode cX4_takeBack 1 = .ok (.getfield 15, 3) := by decide +kernel
theorem dX4_takeBack_4 : decode cX4_takeBack 4 = .ok (.ifCond .le 29, 3) := by decide +kernel
theorem dX4_takeBack_7 : decode cX4_takeBack 7 = .ok (.aload_n 0, 1) := by decide +kernel
theorem dX4_takeBack_8 : decode cX4_takeBack 8 = .ok (.dup, 1) := by decide +kernel
theorem dX4_takeBack_9 : decode cX4_takeBack 9 = .ok (.getfield 15, 3) := by decide +kernel
theorem dX4_takeBack_12 : decode cX4_takeBack 12 = .ok (.iconst 1, 1) := by decide +kernel
theorem dX4_takeBack_13 : decode cX4_takeBack 13 = .ok (.isub, 1) := by decide +kernel
theorem dX4_takeBack_14 : decode cX4_takeBack 14 = .ok (.putfield 15, 3) := by decide +kernel
theorem dX4_takeBack_17 : decode cX4_takeBack 17 = .ok (.aload_n 1, 1) := by decide +kernel
theorem dX4_takeBack_18 : decode cX4_takeBack 18 = .ok (.aload_n 0, 1) := by decide +kernel
theorem dX4_takeBack_19 : decode cX4_takeBack 19 = .ok (.getfield 9, 3) := by decide +kernel
theorem dX4_takeBack_22 : decode cX4_takeBack 22 = .ok (.aload_n 0, 1) := by decide +kernel
theorem dX4_takeBack_23 : decode cX4_takeBack 23 = .ok (.aload_n 0, 1) := by decide +kernel
theorem dX4_takeBack_24 : decode cX4_takeBack 24 = .ok (.getfield 15, 3) := by decide +kernel
theorem dX4_takeBack_27 : decode cX4_takeBack 27 = .ok (.invokevirtual 28, 3) := by decide +kernel
theorem dX4_takeBack_30 : decode cX4_takeBack 30 = .ok (.invokevirtual 38, 3) := by decide +kernel
theorem dX4_takeBack_33 : decode cX4_takeBack 33 = .ok (.return_, 1) := by decide +kernel
theorem dX4_placeOf_0 : decode cX4_placeOf 0 = .ok (.aload_n 0, 1) := by decide +kernel
theorem dX4_placeOf_1 : decode cX4_placeOf 1 = .ok (.getfield 19, 3) := by decide +kernel
theorem dX4_placeOf_4 : decode cX4_placeOf 4 = .ok (.iload_n 1, 1) := by decide +kernel
theorem dX4_placeOf_5 : decode cX4_placeOf 5 = .ok (.iadd, 1) := by decide +kernel
theorem dX4_placeOf_6 : decode cX4_placeOf 6 = .ok (.bipush 40, 2) := by decide +kernel
theorem dX4_placeOf_8 : decode cX4_placeOf 8 = .ok (.irem, 1) := by decide +kernel
theorem dX4_placeOf_9 : decode cX4_placeOf 9 = .ok (.bipush 49, 2) := by decide +kernel
theorem dX4_placeOf_11 : decode cX4_placeOf 11 = .ok (.imul, 1) := by decide +kernel
theorem dX4_placeOf_12 : decode cX4_placeOf 12 = .ok (.ireturn, 1) := by decide +kernel
theorem dX6_init_0 : decode cX6_init 0 = .ok (.aload_n 0, 1) := by decide +kernel
theorem dX6_init_1 : decode cX6_init 1 = .ok (.invokespecial 1, 3) := by decide +kernel
theorem dX6_init_4 : decode cX6_init 4 = .ok (.return_, 1) := by decide +kernel
theorem dX6_clear_0 : decode cX6_clear 0 = .ok (.aload_n 0, 1) := by decide +kernel
theorem dX6_clear_1 : decode cX6_clear 1 = .ok (.iconst 0, 1) := by decide +kernel
theorem dX6_clear_2 : decode cX6_clear 2 = .ok (.putfield 7, 3) := by decide +kernel
theorem dX6_clear_5 : decode cX6_clear 5 = .ok (.aload_n 0, 1) := by decide +kernel
theorem dX6_clear_6 : decode cX6_clear 6 = .ok (.iconst 0, 1) := by decide +kernel
theorem dX6_clear_7 : decode cX6_clear 7 = .ok (.putfield 13, 3) := by decide +kernel
theorem dX6_clear_10 : decode cX6_clear 10 = .ok (.aload_n 0, 1) := by decide +kernel
theorem dX6_clear_11 : decode cX6_clear 11 = .ok (.iconst 0, 1) := by decide +kernel
theorem dX6_clear_12 : decode cX6_clear 12 = .ok (.putfield 17, 3) := by decide +kernel
theorem dX6_clear_15 : decode cX6_clear 15 = .ok (.return_, 1) := by decide +kernel
theorem dX7_init_0 : decode cX7_init 0 = .ok (.aload_n 0, 1) := by decide +kernel
theorem dX7_init_1 : decode cX7_init 1 = .ok (.invokespecial 3, 3) := by decide +kernel
theorem dX7_init_4 : decode cX7_init 4 = .ok (.aload_n 0, 1) := by decide +kernel
theorem dX7_init_5 : decode cX7_init 5 = .ok (.bipush 8, 2) := by decide +kernel
theorem dX7_init_7 : decode cX7_init 7 = .ok (.newarray .int, 2) := by decide +kernel
theorem dX7_init_9 : decode cX7_init 9 = .ok (.putfield 9, 3) := by decide +kernel
theorem dX7_init_12 : decode cX7_init 12 = .ok (.aload_n 0, 1) := by decide +kernel
theorem dX7_init_13 : decode cX7_init 13 = .ok (.bipush 8, 2) := by decide +kernel
theorem dX7_init_15 : decode cX7_init 15 = .ok (.newarray .int, 2) := by decide +kernel
theorem dX7_init_17 : decode cX7_init 17 = .ok (.putfield 15, 3) := by decide +kernel
theorem dX7_init_20 : decode cX7_init 20 = .ok (.aload_n 0, 1) := by decide +kernel
theorem dX7_init_21 : decode cX7_init 21 = .ok (.bipush 8, 2) := by decide +kernel
theorem dX7_init_23 : decode cX7_init 23 = .ok (.newarray .int, 2) := by decide +kernel
theorem dX7_init_25 : decode cX7_init 25 = .ok (.putfield 18, 3) := by decide +kernel
theorem dX7_init_28 : decode cX7_init 28 = .ok (.return_, 1) := by decide +kernel
theorem dX7_clear_0 : decode cX7_clear 0 = .ok (.aload_n 0, 1) := by decide +kernel
theorem dX7_clear_1 : decode cX7_clear 1 = .ok (.iconst 0, 1) := by decide +kernel
theorem dX7_clear_2 : decode cX7_clear 2 = .ok (.putfield 21, 3) := by decide +kernel
theorem dX7_clear_5 : decode cX7_clear 5 = .ok (.return_, 1) := by decide +kernel
theorem dX7_copyFrom_0 : decode cX7_copyFrom 0 = .ok (.aload_n 0, 1) := by decide +kernel
theorem dX7_copyFrom_1 : decode cX7_copyFrom 1 = .ok (.aload_n 1, 1) := by decide +kernel
theorem dX7_copyFrom_2 : decode cX7_copyFrom 2 = .ok (.getfield 21, 3) := by decide +kernel
theorem dX7_copyFrom_5 : decode cX7_copyFrom 5 = .ok (.putfield 21, 3) := by decide +kernel
theorem dX7_copyFrom_8 : decode cX7_copyFrom 8 = .ok (.aload_n 1, 1) := by decide +kernel
theorem dX7_copyFrom_9 : decode cX7_copyFrom 9 = .ok (.getfield 9, 3) := by decide +kernel
theorem dX7_copyFrom_12 : decode cX7_copyFrom 12 = .ok (.iconst 0, 1) := by decide +kernel
theorem dX7_copyFrom_13 : decode cX7_copyFrom 13 = .ok (.aload_n 0, 1) := by decide +kernel
theorem dX7_copyFrom_14 : decode cX7_copyFrom 14 = .ok (.getfield 9, 3) := by decide +kernel
theorem dX7_copyFrom_17 : decode cX7_copyFrom 17 = .ok (.iconst 0, 1) := by decide +kernel
theorem dX7_copyFrom_18 : decode cX7_copyFrom 18 = .ok (.bipush 8, 2) := by decide +kernel
theorem dX7_copyFrom_20 : decode cX7_copyFrom 20 = .ok (.invokestatic 25, 3) := by decide +kernel
theorem dX7_copyFrom_23 : decode cX7_copyFrom 23 = .ok (.aload_n 1, 1) := by decide +kernel
theorem dX7_copyFrom_24 : decode cX7_copyFrom 24 = .ok (.getfield 15, 3) := by decide +kernel
theorem dX7_copyFrom_27 : decode cX7_copyFrom 27 = .ok (.iconst 0, 1) := by decide +kernel
theorem dX7_copyFrom_28 : decode cX7_copyFrom 28 = .ok (.aload_n 0, 1) := by decide +kernel
theorem dX7_copyFrom_29 : decode cX7_copyFrom 29 = .ok (.getfield 15, 3) := by decide +kernel
theorem dX7_copyFrom_32 : decode cX7_copyFrom 32 = .ok (.iconst 0, 1) := by decide +kernel
theorem dX7_copyFrom_33 : decode cX7_copyFrom 33 = .ok (.bipush 8, 2) := by decide +kernel
theorem dX7_copyFrom_35 : decode cX7_copyFrom 35 = .ok (.invokestatic 25, 3) := by decide +kernel
theorem dX7_copyFrom_38 : decode cX7_copyFrom 38 = .ok (.aload_n 1, 1) := by decide +kernel
theorem dX7_copyFrom_39 : decode cX7_copyFrom 39 = .ok (.getfield 18, 3) := by decide +kernel
theorem dX7_copyFrom_42 : decode cX7_copyFrom 42 = .ok (.iconst 0, 1) := by decide +kernel
theorem dX7_copyFrom_43 : decode cX7_copyFrom 43 = .ok (.aload_n 0, 1) := by decide +kernel
theorem dX7_copyFrom_44 : decode cX7_copyFrom 44 = .ok (.getfield 18, 3) := by decide +kernel
theorem dX7_copyFrom_47 : decode cX7_copyFrom 47 = .ok (.iconst 0, 1) := by decide +kernel
theorem dX7_copyFrom_48 : decode cX7_copyFrom 48 = .ok (.bipush 8, 2) := by decide +kernel
theorem dX7_copyFrom_50 : decode cX7_copyFrom 50 = .ok (.invokestatic 25, 3) := by decide +kernel
theorem dX7_copyFrom_53 : decode cX7_copyFrom 53 = .ok (.return_, 1) := by decide +kernel
theorem dX7_put_0 : decode cX7_put 0 = .ok (.aload_n 0, 1) := by decide +kernel
theorem dX7_put_1 : decode cX7_put 1 = .ok (.getfield 21, 3) := by decide +kernel
theorem dX7_put_4 : decode cX7_put 4 = .ok (.bipush 8, 2) := by decide +kernel
theorem dX7_put_6 : decode cX7_put 6 = .ok (.if_icmp .ge 43, 3) := by decide +kernel
theorem dX7_put_9 : decode cX7_put 9 = .ok (.aload_n 0, 1) := by decide +kernel
theorem dX7_put_10 : decode cX7_put 10 = .ok (.getfield 9, 3) := by decide +kernel
theorem dX7_put_13 : decode cX7_put 13 = .ok (.aload_n 0, 1) := by decide +kernel
theorem dX7_put_14 : decode cX7_put 14 = .ok (.getfield 21, 3) := by decide +kernel
theorem dX7_put_17 : decode cX7_put 17 = .ok (.iload_n 1, 1) := by decide +kernel
theorem dX7_put_18 : decode cX7_put 18 = .ok (.iastore, 1) := by decide +kernel
theorem dX7_put_19 : decode cX7_put 19 = .ok (.aload_n 0, 1) := by decide +kernel
theorem dX7_put_20 : decode cX7_put 20 = .ok (.getfield 15, 3) := by decide +kernel
theorem dX7_put_23 : decode cX7_put 23 = .ok (.aload_n 0, 1) := by decide +kernel
theorem dX7_put_24 : decode cX7_put 24 = .ok (.getfield 21, 3) := by decide +kernel
theorem dX7_put_27 : decode cX7_put 27 = .ok (.iload_n 2, 1) := by decide +kernel
theorem dX7_put_28 : decode cX7_put 28 = .ok (.iastore, 1) := by decide +kernel
theorem dX7_put_29 : decode cX7_put 29 = .ok (.aload_n 0, 1) := by decide +kernel
theorem dX7_put_30 : decode cX7_put 30 = .ok (.getfield 18, 3) := by decide +kernel
theorem dX7_put_33 : decode cX7_put 33 = .ok (.aload_n 0, 1) := by decide +kernel
theorem dX7_put_34 : decode cX7_put 34 = .ok (.getfield 21, 3) := by decide +kernel
theorem dX7_put_37 : decode cX7_put 37 = .ok (.iload_n 3, 1) := by decide +kernel
theorem dX7_put_38 : decode cX7_put 38 = .ok (.iastore, 1) := by decide +kernel
theorem dX7_put_39 : decode cX7_put 39 = .ok (.aload_n 0, 1) := by decide +kernel
theorem dX7_put_40 : decode cX7_put 40 = .ok (.dup, 1) := by decide +kernel
theorem dX7_put_41 : decode cX7_put 41 = .ok (.getfield 21, 3) := by decide +kernel
theorem dX7_put_44 : decode cX7_put 44 = .ok (.iconst 1, 1) := by decide +kernel
theorem dX7_put_45 : decode cX7_put 45 = .ok (.iadd, 1) := by decide +kernel
theorem dX7_put_46 : decode cX7_put 46 = .ok (.putfield 21, 3) := by decide +kernel
theorem dX7_put_49 : decode cX7_put 49 = .ok (.return_, 1) := by decide +kernel
theorem dX7_lastDay_0 : decode cX7_lastDay 0 = .ok (.iconst 0, 1) := by decide +kernel
theorem dX7_lastDay_1 : decode cX7_lastDay 1 = .ok (.istore_n 1, 1) := by decide +kernel
theorem dX7_lastDay_2 : decode cX7_lastDay 2 = .ok (.iconst 0, 1) := by decide +kernel
theorem dX7_lastDay_3 : decode cX7_lastDay 3 = .ok (.istore_n 2, 1) := by decide +kernel
theorem dX7_lastDay_4 : decode cX7_lastDay 4 = .ok (.iload_n 2, 1) := by decide +kernel
theorem dX7_lastDay_5 : decode cX7_lastDay 5 = .ok (.aload_n 0, 1) := by decide +kernel
theorem dX7_lastDay_6 : decode cX7_lastDay 6 = .ok (.getfield 21, 3) := by decide +kernel
theorem dX7_lastDay_9 : decode cX7_lastDay 9 = .ok (.if_icmp .ge 20, 3) := by decide +kernel
theorem dX7_lastDay_12 : decode cX7_lastDay 12 = .ok (.iload_n 1, 1) := by decide +kernel
theorem dX7_lastDay_13 : decode cX7_lastDay 13 = .ok (.aload_n 0, 1) := by decide +kernel
theorem dX7_lastDay_14 : decode cX7_lastDay 14 = .ok (.getfield 15, 3) := by decide +kernel
theorem dX7_lastDay_17 : decode cX7_lastDay 17 = .ok (.iload_n 2, 1) := by decide +kernel
theorem dX7_lastDay_18 : decode cX7_lastDay 18 = .ok (.iaload, 1) := by decide +kernel
theorem dX7_lastDay_19 : decode cX7_lastDay 19 = .ok (.invokestatic 31, 3) := by decide +kernel
theorem dX7_lastDay_22 : decode cX7_lastDay 22 = .ok (.istore_n 1, 1) := by decide +kernel
theorem dX7_lastDay_23 : decode cX7_lastDay 23 = .ok (.iinc 2 1, 3) := by decide +kernel
theorem dX7_lastDay_26 : decode cX7_lastDay 26 = .ok (.goto (-22), 3) := by decide +kernel
theorem dX7_lastDay_29 : decode cX7_lastDay 29 = .ok (.iload_n 1, 1) := by decide +kernel
theorem dX7_lastDay_30 : decode cX7_lastDay 30 = .ok (.ireturn, 1) := by decide +kernel
theorem dX7_isSo_0 : decode cX7_isSo 0 = .ok (.iconst 0, 1) := by decide +kernel
theorem dX7_isSo_1 : decode cX7_isSo 1 = .ok (.istore_n 3, 1) := by decide +kernel
theorem dX7_isSo_2 : decode cX7_isSo 2 = .ok (.iload_n 3, 1) := by decide +kernel
theorem dX7_isSo_3 : decode cX7_isSo 3 = .ok (.aload_n 0, 1) := by decide +kernel
theorem dX7_isSo_4 : decode cX7_isSo 4 = .ok (.getfield 21, 3) := by decide +kernel
theorem dX7_isSo_7 : decode cX7_isSo 7 = .ok (.if_icmp .ge 41, 3) := by decide +kernel
theorem dX7_isSo_10 : decode cX7_isSo 10 = .ok (.aload_n 0, 1) := by decide +kernel
theorem dX7_isSo_11 : decode cX7_isSo 11 = .ok (.getfield 15, 3) := by decide +kernel
theorem dX7_isSo_14 : decode cX7_isSo 14 = .ok (.iload_n 3, 1) := by decide +kernel
theorem dX7_isSo_15 : decode cX7_isSo 15 = .ok (.iaload, 1) := by decide +kernel
theorem dX7_isSo_16 : decode cX7_isSo 16 = .ok (.iload_n 2, 1) := by decide +kernel
theorem dX7_isSo_17 : decode cX7_isSo 17 = .ok (.if_icmp .ne 25, 3) := by decide +kernel
theorem dX7_isSo_20 : decode cX7_isSo 20 = .ok (.aload_n 1, 1) := by decide +kernel
theorem dX7_isSo_21 : decode cX7_isSo 21 = .ok (.getfield 37, 3) := by decide +kernel
theorem dX7_isSo_24 : decode cX7_isSo 24 = .ok (.aload_n 0, 1) := by decide +kernel
theorem dX7_isSo_25 : decode cX7_isSo 25 = .ok (.getfield 9, 3) := by decide +kernel
theorem dX7_isSo_28 : decode cX7_isSo 28 = .ok (.iload_n 3, 1) := by decide +kernel
theorem dX7_isSo_29 : decode cX7_isSo 29 = .ok (.iaload, 1) := by decide +kernel
theorem dX7_isSo_30 : decode cX7_isSo 30 = .ok (.iaload, 1) := by decide +kernel
theorem dX7_isSo_31 : decode cX7_isSo 31 = .ok (.aload_n 0, 1) := by decide +kernel
theorem dX7_isSo_32 : decode cX7_isSo 32 = .ok (.getfield 18, 3) := by decide +kernel
theorem dX7_isSo_35 : decode cX7_isSo 35 = .ok (.iload_n 3, 1) := by decide +kernel
theorem dX7_isSo_36 : decode cX7_isSo 36 = .ok (.iaload, 1) := by decide +kernel
theorem dX7_isSo_37 : decode cX7_isSo 37 = .ok (.if_icmp .eq 5, 3) := by decide +kernel
theorem dX7_isSo_40 : decode cX7_isSo 40 = .ok (.iconst 0, 1) := by decide +kernel
theorem dX7_isSo_41 : decode cX7_isSo 41 = .ok (.ireturn, 1) := by decide +kernel
theorem dX7_isSo_42 : decode cX7_isSo 42 = .ok (.iinc 3 1, 3) := by decide +kernel
theorem dX7_isSo_45 : decode cX7_isSo 45 = .ok (.goto (-43), 3) := by decide +kernel
theorem dX7_isSo_48 : decode cX7_isSo 48 = .ok (.iconst 1, 1) := by decide +kernel
theorem dX7_isSo_49 : decode cX7_isSo 49 = .ok (.ireturn, 1) := by decide +kernel
theorem dX8_init_0 : decode cX8_init 0 = .ok (.aload_n 0, 1) := by decide +kernel
theorem dX8_init_1 : decode cX8_init 1 = .ok (.invokespecial 3, 3) := by decide +kernel
theorem dX8_init_4 : decode cX8_init 4 = .ok (.aload_n 0, 1) := by decide +kernel
theorem dX8_init_5 : decode cX8_init 5 = .ok (.bipush 64, 2) := by decide +kernel
theorem dX8_init_7 : decode cX8_init 7 = .ok (.newarray .int, 2) := by decide +kernel
theorem dX8_init_9 : decode cX8_init 9 = .ok (.putfield 9, 3) := by decide +kernel
theorem dX8_init_12 : decode cX8_init 12 = .ok (.aload_n 0, 1) := by decide +kernel
theorem dX8_init_13 : decode cX8_init 13 = .ok (.bipush 6, 2) := by decide +kernel
theorem dX8_init_15 : decode cX8_init 15 = .ok (.newarray .int, 2) := by decide +kernel
theorem dX8_init_17 : decode cX8_init 17 = .ok (.putfield 15, 3) := by decide +kernel
theorem dX8_init_20 : decode cX8_init 20 = .ok (.return_, 1) := by decide +kernel
theorem dX8_stepsOfAll_0 : decode cX8_stepsOfAll 0 = .ok (.aload_n 0, 1) := by decide +kernel
theorem dX8_stepsOfAll_1 : decode cX8_stepsOfAll 1 = .ok (.getfield 9, 3) := by decide +kernel
theorem dX8_stepsOfAll_4 : decode cX8_stepsOfAll 4 = .ok (.iconst 0, 1) := by decide +kernel
theorem dX8_stepsOfAll_5 : decode cX8_stepsOfAll 5 = .ok (.iaload, 1) := by decide +kernel
theorem dX8_stepsOfAll_6 : decode cX8_stepsOfAll 6 = .ok (.ireturn, 1) := by decide +kernel
theorem dX8_weigh_0 : decode cX8_weigh 0 = .ok (.aload_n 0, 1) := by decide +kernel
theorem dX8_weigh_1 : decode cX8_weigh 1 = .ok (.iconst 0, 1) := by decide +kernel
theorem dX8_weigh_2 : decode cX8_weigh 2 = .ok (.putfield 18, 3) := by decide +kernel
theorem dX8_weigh_5 : decode cX8_weigh 5 = .ok (.iconst 0, 1) := by decide +kernel
theorem dX8_weigh_6 : decode cX8_weigh 6 = .ok (.istore 4, 2) := by decide +kernel
theorem dX8_weigh_8 : decode cX8_weigh 8 = .ok (.iload 4, 2) := by decide +kernel
theorem dX8_weigh_10 : decode cX8_weigh 10 = .ok (.aload_n 1, 1) := by decide +kernel
theorem dX8_weigh_11 : decode cX8_weigh 11 = .ok (.getfield 22, 3) := by decide +kernel
theorem dX8_weigh_14 : decode cX8_weigh 14 = .ok (.if_icmp .ge 52, 3) := by decide +kernel
theorem dX8_weigh_17 : decode cX8_weigh 17 = .ok (.iload_n 3, 1) := by decide +kernel
theorem dX8_weigh_18 : decode cX8_weigh 18 = .ok (.iload 4, 2) := by decide +kernel
theorem dX8_weigh_20 : decode cX8_weigh 20 = .ok (.ishr, 1) := by decide +kernel
theorem dX8_weigh_21 : decode cX8_weigh 21 = .ok (.iconst 1, 1) := by decide +kernel
theorem dX8_weigh_22 : decode cX8_weigh 22 = .ok (.iand, 1) := by decide +kernel
theorem dX8_weigh_23 : decode cX8_weigh 23 = .ok (.iconst 1, 1) := by decide +kernel
theorem dX8_weigh_24 : decode cX8_weigh 24 = .ok (.if_icmp .ne 36, 3) := by decide +kernel
theorem dX8_weigh_27 : decode cX8_weigh 27 = .ok (.aload_n 0, 1) := by decide +kernel
theorem dX8_weigh_28 : decode cX8_weigh 28 = .ok (.getfield 18, 3) := by decide +kernel
theorem dX8_weigh_31 : decode cX8_weigh 31 = .ok (.aload_n 0, 1) := by decide +kernel
theorem dX8_weigh_32 : decode cX8_weigh 32 = .ok (.getfield 15, 3) := by decide +kernel
theorem dX8_weigh_35 : decode cX8_weigh 35 = .ok (.arraylength, 1) := by decide +kernel
theorem dX8_weigh_36 : decode cX8_weigh 36 = .ok (.if_icmp .ge 24, 3) := by decide +kernel
theorem dX8_weigh_39 : decode cX8_weigh 39 = .ok (.aload_n 0, 1) := by decide +kernel
theorem dX8_weigh_40 : decode cX8_weigh 40 = .ok (.getfield 15, 3) := by decide +kernel
theorem dX8_weigh_43 : decode cX8_weigh 43 = .ok (.aload_n 0, 1) := by decide +kernel
theorem dX8_weigh_44 : decode cX8_weigh 44 = .ok (.getfield 18, 3) := by decide +kernel
theorem dX8_weigh_47 : decode cX8_weigh 47 = .ok (.iload 4, 2) := by decide +kernel
theorem dX8_weigh_49 : decode cX8_weigh 49 = .ok (.iastore, 1) := by decide +kernel
theorem dX8_weigh_50 : decode cX8_weigh 50 = .ok (.aload_n 0, 1) := by decide +kernel
theorem dX8_weigh_51 : decode cX8_weigh 51 = .ok (.dup, 1) := by decide +kernel
theorem dX8_weigh_52 : decode cX8_weigh 52 = .ok (.getfield 18, 3) := by decide +kernel
theorem dX8_weigh_55 : decode cX8_weigh 55 = .ok (.iconst 1, 1) := by decide +kernel
theorem dX8_weigh_56 : decode cX8_weigh 56 = .ok (.iadd, 1) := by decide +kernel
theorem dX8_weigh_57 : decode cX8_weigh 57 = .ok (.putfield 18, 3) := by decide +kernel
theorem dX8_weigh_60 : decode cX8_weigh 60 = .ok (.iinc 4 1, 3) := by decide +kernel
theorem dX8_weigh_63 : decode cX8_weigh 63 = .ok (.goto (-55), 3) := by decide +kernel
theorem dX8_weigh_66 : decode cX8_weigh 66 = .ok (.iconst 1, 1) := by decide +kernel
theorem dX8_weigh_67 : decode cX8_weigh 67 = .ok (.aload_n 1, 1) := by decide +kernel
theorem dX8_weigh_68 : decode cX8_weigh 68 = .ok (.getfield 27, 3) := by decide +kernel
theorem dX8_weigh_71 : decode cX8_weigh 71 = .ok (.ishl, 1) := by decide +kernel
theorem dX8_weigh_72 : decode cX8_weigh 72 = .ok (.iconst 1, 1) := by decide +kernel
theorem dX8_weigh_73 : decode cX8_weigh 73 = .ok (.isub, 1) := by decide +kernel
theorem dX8_weigh_74 : decode cX8_weigh 74 = .ok (.istore 4, 2) := by decide +kernel
theorem dX8_weigh_76 : decode cX8_weigh 76 = .ok (.iload 4, 2) := by decide +kernel
theorem dX8_weigh_78 : decode cX8_weigh 78 = .ok (.ifCond .lt 40, 3) := by decide +kernel
theorem dX8_weigh_81 : decode cX8_weigh 81 = .ok (.aload_n 0, 1) := by decide +kernel
theorem dX8_weigh_82 : decode cX8_weigh 82 = .ok (.getfield 9, 3) := by decide +kernel
theorem dX8_weigh_85 : decode cX8_weigh 85 = .ok (.iload 4, 2) := by decide +kernel
theorem dX8_weigh_87 : decode cX8_weigh 87 = .ok (.iload 4, 2) := by decide +kernel
theorem dX8_weigh_89 : decode cX8_weigh 89 = .ok (.invokestatic 30, 3) := by decide +kernel
theorem dX8_weigh_92 : decode cX8_weigh 92 = .ok (.aload_n 0, 1) := by decide +kernel
theorem dX8_weigh_93 : decode cX8_weigh 93 = .ok (.getfield 18, 3) := by decide +kernel
theorem dX8_weigh_96 : decode cX8_weigh 96 = .ok (.if_icmp .lt 7, 3) := by decide +kernel
theorem dX8_weigh_99 : decode cX8_weigh 99 = .ok (.iconst 0, 1) := by decide +kernel
theorem dX8_weigh_100 : decode cX8_weigh 100 = .ok (.goto 11, 3) := by decide +kernel
theorem dX8_weigh_103 : decode cX8_weigh 103 = .ok (.aload_n 0, 1) := by decide +kernel
theorem dX8_weigh_104 : decode cX8_weigh 104 = .ok (.aload_n 1, 1) := by decide +kernel
theorem dX8_weigh_105 : decode cX8_weigh 105 = .ok (.aload_n 2, 1) := by decide +kernel
theorem dX8_weigh_106 : decode cX8_weigh 106 = .ok (.iload 4, 2) := by decide +kernel
theorem dX8_weigh_108 : decode cX8_weigh 108 = .ok (.invokevirtual 36, 3) := by decide +kernel
theorem dX8_weigh_111 : decode cX8_weigh 111 = .ok (.iastore, 1) := by decide +kernel
theorem dX8_weigh_112 : decode cX8_weigh 112 = .ok (.iinc 4 (-1), 3) := by decide +kernel
theorem dX8_weigh_115 : decode cX8_weigh 115 = .ok (.goto (-39), 3) := by decide +kernel
theorem dX8_weigh_118 : decode cX8_weigh 118 = .ok (.return_, 1) := by decide +kernel
theorem dX8_fewestBehind_0 : decode cX8_fewestBehind 0 = .ok (.sipush 1000, 3) := by decide +kernel
theorem dX8_fewestBehind_3 : decode cX8_fewestBehind 3 = .ok (.istore 4, 2) := by decide +kernel
theorem dX8_fewestBehind_5 : decode cX8_fewestBehind 5 = .ok (.iconst 0, 1) := by decide +kernel
theorem dX8_fewestBehind_6 : decode cX8_fewestBehind 6 = .ok (.istore 5, 2) := by decide +kernel
theorem dX8_fewestBehind_8 : decode cX8_fewestBehind 8 = .ok (.iload 5, 2) := by decide +kernel
theorem dX8_fewestBehind_10 : decode cX8_fewestBehind 10 = .ok (.aload_n 1, 1) := by decide +kernel
theorem dX8_fewestBehind_11 : decode cX8_fewestBehind 11 = .ok (.getfield 27, 3) := by decide +kernel
theorem dX8_fewestBehind_14 : decode cX8_fewestBehind 14 = .ok (.if_icmp .ge 34, 3) := by decide +kernel
theorem dX8_fewestBehind_17 : decode cX8_fewestBehind 17 = .ok (.iload_n 3, 1) := by decide +kernel
theorem dX8_fewestBehind_18 : decode cX8_fewestBehind 18 = .ok (.iload 5, 2) := by decide +kernel
theorem dX8_fewestBehind_20 : decode cX8_fewestBehind 20 = .ok (.ishr, 1) := by decide +kernel
theorem dX8_fewestBehind_21 : decode cX8_fewestBehind 21 = .ok (.iconst 1, 1) := by decide +kernel
theorem dX8_fewestBehind_22 : decode cX8_fewestBehind 22 = .ok (.iand, 1) := by decide +kernel
theorem dX8_fewestBehind_23 : decode cX8_fewestBehind 23 = .ok (.ifCond .ne 19, 3) := by decide +kernel
theorem dX8_fewestBehind_26 : decode cX8_fewestBehind 26 = .ok (.iload 4, 2) := by decide +kernel
theorem dX8_fewestBehind_28 : decode cX8_fewestBehind 28 = .ok (.aload_n 0, 1) := by decide +kernel
theorem dX8_fewestBehind_29 : decode cX8_fewestBehind 29 = .ok (.aload_n 1, 1) := by decide +kernel
theorem dX8_fewestBehind_30 : decode cX8_fewestBehind 30 = .ok (.aload_n 2, 1) := by decide +kernel
theorem dX8_fewestBehind_31 : decode cX8_fewestBehind 31 = .ok (.iload_n 3, 1) := by decide +kernel
theorem dX8_fewestBehind_32 : decode cX8_fewestBehind 32 = .ok (.iload 5, 2) := by decide +kernel
theorem dX8_fewestBehind_34 : decode cX8_fewestBehind 34 = .ok (.invokevirtual 40, 3) := by decide +kernel
theorem dX8_fewestBehind_37 : decode cX8_fewestBehind 37 = .ok (.invokestatic 44, 3) := by decide +kernel
theorem dX8_fewestBehind_40 : decode cX8_fewestBehind 40 = .ok (.istore 4, 2) := by decide +kernel
theorem dX8_fewestBehind_42 : decode cX8_fewestBehind 42 = .ok (.iinc 5 1, 3) := by decide +kernel
theorem dX8_fewestBehind_45 : decode cX8_fewestBehind 45 = .ok (.goto (-37), 3) := by decide +kernel
theorem dX8_fewestBehind_48 : decode cX8_fewestBehind 48 = .ok (.iload 4, 2) := by decide +kernel
theorem dX8_fewestBehind_50 : decode cX8_fewestBehind 50 = .ok (.ireturn, 1) := by decide +kernel
theorem dX8_stepsBy_0 : decode cX8_stepsBy 0 = .ok (.iload_n 3, 1) := by decide +kernel
theorem dX8_stepsBy_1 : decode cX8_stepsBy 1 = .ok (.invokestatic 30, 3) := by decide +kernel
theorem dX8_stepsBy_4 : decode cX8_stepsBy 4 = .ok (.istore 5, 2) := by decide +kernel
theorem dX8_stepsBy_6 : decode cX8_stepsBy 6 = .ok (.iload 5, 2) := by decide +kernel
theorem dX8_stepsBy_8 : decode cX8_stepsBy 8 = .ok (.aload_n 0, 1) := by decide +kernel
theorem dX8_stepsBy_9 : decode cX8_stepsBy 9 = .ok (.getfield 18, 3) := by decide +kernel
theorem dX8_stepsBy_12 : decode cX8_stepsBy 12 = .ok (.if_icmp .lt 7, 3) := by decide +kernel
theorem dX8_stepsBy_15 : decode cX8_stepsBy 15 = .ok (.iconst 0, 1) := by decide +kernel
theorem dX8_stepsBy_16 : decode cX8_stepsBy 16 = .ok (.goto 33, 3) := by decide +kernel
theorem dX8_stepsBy_19 : decode cX8_stepsBy 19 = .ok (.aload_n 1, 1) := by decide +kernel
theorem dX8_stepsBy_20 : decode cX8_stepsBy 20 = .ok (.aload_n 2, 1) := by decide +kernel
theorem dX8_stepsBy_21 : decode cX8_stepsBy 21 = .ok (.getfield 50, 3) := by decide +kernel
theorem dX8_stepsBy_24 : decode cX8_stepsBy 24 = .ok (.iload 4, 2) := by decide +kernel
theorem dX8_stepsBy_26 : decode cX8_stepsBy 26 = .ok (.iaload, 1) := by decide +kernel
theorem dX8_stepsBy_27 : decode cX8_stepsBy 27 = .ok (.aload_n 0, 1) := by decide +kernel
theorem dX8_stepsBy_28 : decode cX8_stepsBy 28 = .ok (.getfield 15, 3) := by decide +kernel
theorem dX8_stepsBy_31 : decode cX8_stepsBy 31 = .ok (.iload 5, 2) := by decide +kernel
theorem dX8_stepsBy_33 : decode cX8_stepsBy 33 = .ok (.iaload, 1) := by decide +kernel
theorem dX8_stepsBy_34 : decode cX8_stepsBy 34 = .ok (.invokevirtual 55, 3) := by decide +kernel
theorem dX8_stepsBy_37 : decode cX8_stepsBy 37 = .ok (.aload_n 0, 1) := by decide +kernel
theorem dX8_stepsBy_38 : decode cX8_stepsBy 38 = .ok (.getfield 9, 3) := by decide +kernel
theorem dX8_stepsBy_41 : decode cX8_stepsBy 41 = .ok (.iload_n 3, 1) := by decide +kernel
theorem dX8_stepsBy_42 : decode cX8_stepsBy 42 = .ok (.iconst 1, 1) := by decide +kernel
theorem dX8_stepsBy_43 : decode cX8_stepsBy 43 = .ok (.iload 4, 2) := by decide +kernel
theorem dX8_stepsBy_45 : decode cX8_stepsBy 45 = .ok (.ishl, 1) := by decide +kernel
theorem dX8_stepsBy_46 : decode cX8_stepsBy 46 = .ok (.ior, 1) := by decide +kernel
theorem dX8_stepsBy_47 : decode cX8_stepsBy 47 = .ok (.iaload, 1) := by decide +kernel
theorem dX8_stepsBy_48 : decode cX8_stepsBy 48 = .ok (.iadd, 1) := by decide +kernel
theorem dX8_stepsBy_49 : decode cX8_stepsBy 49 = .ok (.ireturn, 1) := by decide +kernel
theorem dX8_whoGoesTo_0 : decode cX8_whoGoesTo 0 = .ok (.iconst 0, 1) := by decide +kernel
theorem dX8_whoGoesTo_1 : decode cX8_whoGoesTo 1 = .ok (.istore 4, 2) := by decide +kernel
theorem dX8_whoGoesTo_3 : decode cX8_whoGoesTo 3 = .ok (.iconst 0, 1) := by decide +kernel
theorem dX8_whoGoesTo_4 : decode cX8_whoGoesTo 4 = .ok (.istore 5, 2) := by decide +kernel
theorem dX8_whoGoesTo_6 : decode cX8_whoGoesTo 6 = .ok (.iload 5, 2) := by decide +kernel
theorem dX8_whoGoesTo_8 : decode cX8_whoGoesTo 8 = .ok (.aload_n 0, 1) := by decide +kernel
theorem dX8_whoGoesTo_9 : decode cX8_whoGoesTo 9 = .ok (.getfield 18, 3) := by decide +kernel
theorem dX8_whoGoesTo_12 : decode cX8_whoGoesTo 12 = .ok (.if_icmp .ge 51, 3) := by decide +kernel
theorem dX8_whoGoesTo_15 : decode cX8_whoGoesTo 15 = .ok (.aload_n 0, 1) := by decide +kernel
theorem dX8_whoGoesTo_16 : decode cX8_whoGoesTo 16 = .ok (.aload_n 1, 1) := by decide +kernel
theorem dX8_whoGoesTo_17 : decode cX8_whoGoesTo 17 = .ok (.aload_n 2, 1) := by decide +kernel
theorem dX8_whoGoesTo_18 : decode cX8_whoGoesTo 18 = .ok (.iload 4, 2) := by decide +kernel
theorem dX8_whoGoesTo_20 : decode cX8_whoGoesTo 20 = .ok (.invokevirtual 58, 3) := by decide +kernel
theorem dX8_whoGoesTo_23 : decode cX8_whoGoesTo 23 = .ok (.istore 6, 2) := by decide +kernel
theorem dX8_whoGoesTo_25 : decode cX8_whoGoesTo 25 = .ok (.aload_n 0, 1) := by decide +kernel
theorem dX8_whoGoesTo_26 : decode cX8_whoGoesTo 26 = .ok (.getfield 15, 3) := by decide +kernel
theorem dX8_whoGoesTo_29 : decode cX8_whoGoesTo 29 = .ok (.iload 5, 2) := by decide +kernel
theorem dX8_whoGoesTo_31 : decode cX8_whoGoesTo 31 = .ok (.iaload, 1) := by decide +kernel
theorem dX8_whoGoesTo_32 : decode cX8_whoGoesTo 32 = .ok (.iload_n 3, 1) := by decide +kernel
theorem dX8_whoGoesTo_33 : decode cX8_whoGoesTo 33 = .ok (.if_icmp .ne 6, 3) := by decide +kernel
theorem dX8_whoGoesTo_36 : decode cX8_whoGoesTo 36 = .ok (.iload 6, 2) := by decide +kernel
theorem dX8_whoGoesTo_38 : decode cX8_whoGoesTo 38 = .ok (.ireturn, 1) := by decide +kernel
theorem dX8_whoGoesTo_39 : decode cX8_whoGoesTo 39 = .ok (.iload 4, 2) := by decide +kernel
theorem dX8_whoGoesTo_41 : decode cX8_whoGoesTo 41 = .ok (.iload 6, 2) := by decide +kernel
theorem dX8_whoGoesTo_43 : decode cX8_whoGoesTo 43 = .ok (.ifCond .ge 7, 3) := by decide +kernel
theorem dX8_whoGoesTo_46 : decode cX8_whoGoesTo 46 = .ok (.iconst 0, 1) := by decide +kernel
theorem dX8_whoGoesTo_47 : decode cX8_whoGoesTo 47 = .ok (.goto 7, 3) := by decide +kernel
theorem dX8_whoGoesTo_50 : decode cX8_whoGoesTo 50 = .ok (.iconst 1, 1) := by decide +kernel
theorem dX8_whoGoesTo_51 : decode cX8_whoGoesTo 51 = .ok (.iload 6, 2) := by decide +kernel
theorem dX8_whoGoesTo_53 : decode cX8_whoGoesTo 53 = .ok (.ishl, 1) := by decide +kernel
theorem dX8_whoGoesTo_54 : decode cX8_whoGoesTo 54 = .ok (.ior, 1) := by decide +kernel
theorem dX8_whoGoesTo_55 : decode cX8_whoGoesTo 55 = .ok (.istore 4, 2) := by decide +kernel
theorem dX8_whoGoesTo_57 : decode cX8_whoGoesTo 57 = .ok (.iinc 5 1, 3) := by decide +kernel
theorem dX8_whoGoesTo_60 : decode cX8_whoGoesTo 60 = .ok (.goto (-54), 3) := by decide +kernel
theorem dX8_whoGoesTo_63 : decode cX8_whoGoesTo 63 = .ok (.iconst (-1), 1) := by decide +kernel
theorem dX8_whoGoesTo_64 : decode cX8_whoGoesTo 64 = .ok (.ireturn, 1) := by decide +kernel
theorem dX8_whoIsNext_0 : decode cX8_whoIsNext 0 = .ok (.iconst 0, 1) := by decide +kernel
theorem dX8_whoIsNext_1 : decode cX8_whoIsNext 1 = .ok (.istore 4, 2) := by decide +kernel
theorem dX8_whoIsNext_3 : decode cX8_whoIsNext 3 = .ok (.iload 4, 2) := by decide +kernel
theorem dX8_whoIsNext_5 : decode cX8_whoIsNext 5 = .ok (.aload_n 1, 1) := by decide +kernel
theorem dX8_whoIsNext_6 : decode cX8_whoIsNext 6 = .ok (.getfield 27, 3) := by decide +kernel
theorem dX8_whoIsNext_9 : decode cX8_whoIsNext 9 = .ok (.if_icmp .ge 39, 3) := by decide +kernel
theorem dX8_whoIsNext_12 : decode cX8_whoIsNext 12 = .ok (.iload_n 3, 1) := by decide +kernel
theorem dX8_whoIsNext_13 : decode cX8_whoIsNext 13 = .ok (.iload 4, 2) := by decide +kernel
theorem dX8_whoIsNext_15 : decode cX8_whoIsNext 15 = .ok (.ishr, 1) := by decide +kernel
theorem dX8_whoIsNext_16 : decode cX8_whoIsNext 16 = .ok (.iconst 1, 1) := by decide +kernel
theorem dX8_whoIsNext_17 : decode cX8_whoIsNext 17 = .ok (.iand, 1) := by decide +kernel
theorem dX8_whoIsNext_18 : decode cX8_whoIsNext 18 = .ok (.ifCond .ne 24, 3) := by decide +kernel
theorem dX8_whoIsNext_21 : decode cX8_whoIsNext 21 = .ok (.aload_n 0, 1) := by decide +kernel
theorem dX8_whoIsNext_22 : decode cX8_whoIsNext 22 = .ok (.aload_n 1, 1) := by decide +kernel
theorem dX8_whoIsNext_23 : decode cX8_whoIsNext 23 = .ok (.aload_n 2, 1) := by decide +kernel
theorem dX8_whoIsNext_24 : decode cX8_whoIsNext 24 = .ok (.iload_n 3, 1) := by decide +kernel
theorem dX8_whoIsNext_25 : decode cX8_whoIsNext 25 = .ok (.iload 4, 2) := by decide +kernel
theorem dX8_whoIsNext_27 : decode cX8_whoIsNext 27 = .ok (.invokevirtual 40, 3) := by decide +kernel
theorem dX8_whoIsNext_30 : decode cX8_whoIsNext 30 = .ok (.aload_n 0, 1) := by decide +kernel
theorem dX8_whoIsNext_31 : decode cX8_whoIsNext 31 = .ok (.getfield 9, 3) := by decide +kernel
theorem dX8_whoIsNext_34 : decode cX8_whoIsNext 34 = .ok (.iload_n 3, 1) := by decide +kernel
theorem dX8_whoIsNext_35 : decode cX8_whoIsNext 35 = .ok (.iaload, 1) := by decide +kernel
theorem dX8_whoIsNext_36 : decode cX8_whoIsNext 36 = .ok (.if_icmp .ne 6, 3) := by decide +kernel
theorem dX8_whoIsNext_39 : decode cX8_whoIsNext 39 = .ok (.iload 4, 2) := by decide +kernel
theorem dX8_whoIsNext_41 : decode cX8_whoIsNext 41 = .ok (.ireturn, 1) := by decide +kernel
theorem dX8_whoIsNext_42 : decode cX8_whoIsNext 42 = .ok (.iinc 4 1, 3) := by decide +kernel
theorem dX8_whoIsNext_45 : decode cX8_whoIsNext 45 = .ok (.goto (-42), 3) := by decide +kernel
theorem dX8_whoIsNext_48 : decode cX8_whoIsNext 48 = .ok (.iconst (-1), 1) := by decide +kernel
theorem dX8_whoIsNext_49 : decode cX8_whoIsNext 49 = .ok (.ireturn, 1) := by decide +kernel
theorem dX9_init_0 : decode cX9_init 0 = .ok (.aload_n 0, 1) := by decide +kernel
theorem dX9_init_1 : decode cX9_init 1 = .ok (.invokespecial 3, 3) := by decide +kernel
theorem dX9_init_4 : decode cX9_init 4 = .ok (.aload_n 0, 1) := by decide +kernel
theorem dX9_init_5 : decode cX9_init 5 = .ok (.bipush 7, 2) := by decide +kernel
theorem dX9_init_7 : decode cX9_init 7 = .ok (.putfield 9, 3) := by decide +kernel
theorem dX9_init_10 : decode cX9_init 10 = .ok (.aload_n 0, 1) := by decide +kernel
theorem dX9_init_11 : decode cX9_init 11 = .ok (.bipush 6, 2) := by decide +kernel
theorem dX9_init_13 : decode cX9_init 13 = .ok (.newarray .int, 2) := by decide +kernel
theorem dX9_init_15 : decode cX9_init 15 = .ok (.putfield 15, 3) := by decide +kernel
theorem dX9_init_18 : decode cX9_init 18 = .ok (.aload_n 0, 1) := by decide +kernel
theorem dX9_init_19 : decode cX9_init 19 = .ok (.new 19, 3) := by decide +kernel
theorem dX9_init_22 : decode cX9_init 22 = .ok (.dup, 1) := by decide +kernel
theorem dX9_init_23 : decode cX9_init 23 = .ok (.invokespecial 21, 3) := by decide +kernel
theorem dX9_init_26 : decode cX9_init 26 = .ok (.putfield 22, 3) := by decide +kernel
theorem dX9_init_29 : decode cX9_init 29 = .ok (.aload_n 0, 1) := by decide +kernel
theorem dX9_init_30 : decode cX9_init 30 = .ok (.new 26, 3) := by decide +kernel
theorem dX9_init_33 : decode cX9_init 33 = .ok (.dup, 1) := by decide +kernel
theorem dX9_init_34 : decode cX9_init 34 = .ok (.invokespecial 28, 3) := by decide +kernel
theorem dX9_init_37 : decode cX9_init 37 = .ok (.putfield 29, 3) := by decide +kernel
theorem dX9_init_40 : decode cX9_init 40 = .ok (.aload_n 0, 1) := by decide +kernel
theorem dX9_init_41 : decode cX9_init 41 = .ok (.new 26, 3) := by decide +kernel
theorem dX9_init_44 : decode cX9_init 44 = .ok (.dup, 1) := by decide +kernel
theorem dX9_init_45 : decode cX9_init 45 = .ok (.invokespecial 28, 3) := by decide +kernel
theorem dX9_init_48 : decode cX9_init 48 = .ok (.putfield 33, 3) := by decide +kernel
theorem dX9_init_51 : decode cX9_init 51 = .ok (.aload_n 0, 1) := by decide +kernel
theorem dX9_init_52 : decode cX9_init 52 = .ok (.sipush 700, 3) := by decide +kernel
theorem dX9_init_55 : decode cX9_init 55 = .ok (.newarray .int, 2) := by decide +kernel
theorem dX9_init_57 : decode cX9_init 57 = .ok (.putfield 36, 3) := by decide +kernel
theorem dX9_init_60 : decode cX9_init 60 = .ok (.aload_n 0, 1) := by decide +kernel
theorem dX9_init_61 : decode cX9_init 61 = .ok (.bipush 64, 2) := by decide +kernel
theorem dX9_init_63 : decode cX9_init 63 = .ok (.newarray .int, 2) := by decide +kernel
theorem dX9_init_65 : decode cX9_init 65 = .ok (.putfield 39, 3) := by decide +kernel
theorem dX9_init_68 : decode cX9_init 68 = .ok (.return_, 1) := by decide +kernel
theorem dX9_clear_0 : decode cX9_clear 0 = .ok (.aload_n 0, 1) := by decide +kernel
theorem dX9_clear_1 : decode cX9_clear 1 = .ok (.iconst 0, 1) := by decide +kernel
theorem dX9_clear_2 : decode cX9_clear 2 = .ok (.putfield 42, 3) := by decide +kernel
theorem dX9_clear_5 : decode cX9_clear 5 = .ok (.aload_n 0, 1) := by decide +kernel
theorem dX9_clear_6 : decode cX9_clear 6 = .ok (.iconst 0, 1) := by decide +kernel
theorem dX9_clear_7 : decode cX9_clear 7 = .ok (.putfield 45, 3) := by decide +kernel
theorem dX9_clear_10 : decode cX9_clear 10 = .ok (.aload_n 0, 1) := by decide +kernel
theorem dX9_clear_11 : decode cX9_clear 11 = .ok (.bipush 7, 2) := by decide +kernel
theorem dX9_clear_13 : decode cX9_clear 13 = .ok (.putfield 9, 3) := by decide +kernel
theorem dX9_clear_16 : decode cX9_clear 16 = .ok (.aload_n 0, 1) := by decide +kernel
theorem dX9_clear_17 : decode cX9_clear 17 = .ok (.iconst 0, 1) := by decide +kernel
theorem dX9_clear_18 : decode cX9_clear 18 = .ok (.putfield 48, 3) := by decide +kernel
theorem dX9_clear_21 : decode cX9_clear 21 = .ok (.aload_n 0, 1) := by decide +kernel
theorem dX9_clear_22 : decode cX9_clear 22 = .ok (.iconst 0, 1) := by decide +kernel
theorem dX9_clear_23 : decode cX9_clear 23 = .ok (.putfield 52, 3) := by decide +kernel
theorem dX9_clear_26 : decode cX9_clear 26 = .ok (.aload_n 0, 1) := by decide +kernel
theorem dX9_clear_27 : decode cX9_clear 27 = .ok (.getfield 22, 3) := by decide +kernel
theorem dX9_clear_30 : decode cX9_clear 30 = .ok (.iconst 0, 1) := by decide +kernel
theorem dX9_clear_31 : decode cX9_clear 31 = .ok (.putfield 55, 3) := by decide +kernel
theorem dX9_clear_34 : decode cX9_clear 34 = .ok (.aload_n 0, 1) := by decide +kernel
theorem dX9_clear_35 : decode cX9_clear 35 = .ok (.getfield 29, 3) := by decide +kernel
theorem dX9_clear_38 : decode cX9_clear 38 = .ok (.invokevirtual 58, 3) := by decide +kernel
theorem dX9_clear_41 : decode cX9_clear 41 = .ok (.aload_n 0, 1) := by decide +kernel
theorem dX9_clear_42 : decode cX9_clear 42 = .ok (.getfield 33, 3) := by decide +kernel
theorem dX9_clear_45 : decode cX9_clear 45 = .ok (.invokevirtual 58, 3) := by decide +kernel
theorem dX9_clear_48 : decode cX9_clear 48 = .ok (.aload_n 0, 1) := by decide +kernel
theorem dX9_clear_49 : decode cX9_clear 49 = .ok (.iconst 0, 1) := by decide +kernel
theorem dX9_clear_50 : decode cX9_clear 50 = .ok (.putfield 61, 3) := by decide +kernel
theorem dX9_clear_53 : decode cX9_clear 53 = .ok (.return_, 1) := by decide +kernel
theorem dX9_after_0 : decode cX9_after 0 = .ok (.iload_n 1, 1) := by decide +kernel
theorem dX9_after_1 : decode cX9_after 1 = .ok (.iconst 1, 1) := by decide +kernel
theorem dX9_after_2 : decode cX9_after 2 = .ok (.iadd, 1) := by decide +kernel
theorem dX9_after_3 : decode cX9_after 3 = .ok (.aload_n 0, 1) := by decide +kernel
theorem dX9_after_4 : decode cX9_after 4 = .ok (.getfield 42, 3) := by decide +kernel
theorem dX9_after_7 : decode cX9_after 7 = .ok (.if_icmp .lt 7, 3) := by decide +kernel
theorem dX9_after_10 : decode cX9_after 10 = .ok (.iconst 0, 1) := by decide +kernel
theorem dX9_after_11 : decode cX9_after 11 = .ok (.goto 6, 3) := by decide +kernel
theorem dX9_after_14 : decode cX9_after 14 = .ok (.iload_n 1, 1) := by decide +kernel
theorem dX9_after_15 : decode cX9_after 15 = .ok (.iconst 1, 1) := by decide +kernel
theorem dX9_after_16 : decode cX9_after 16 = .ok (.iadd, 1) := by decide +kernel
theorem dX9_after_17 : decode cX9_after 17 = .ok (.ireturn, 1) := by decide +kernel
theorem dX9_ahead_0 : decode cX9_ahead 0 = .ok (.iload_n 1, 1) := by decide +kernel
theorem dX9_ahead_1 : decode cX9_ahead 1 = .ok (.iconst 1, 1) := by decide +kernel
theorem dX9_ahead_2 : decode cX9_ahead 2 = .ok (.if_icmp .ge 12, 3) := by decide +kernel
theorem dX9_ahead_5 : decode cX9_ahead 5 = .ok (.aload_n 0, 1) := by decide +kernel
theorem dX9_ahead_6 : decode cX9_ahead 6 = .ok (.getfield 42, 3) := by decide +kernel
theorem dX9_ahead_9 : decode cX9_ahead 9 = .ok (.iconst 1, 1) := by decide +kernel
theorem dX9_ahead_10 : decode cX9_ahead 10 = .ok (.isub, 1) := by decide +kernel
theorem dX9_ahead_11 : decode cX9_ahead 11 = .ok (.goto 6, 3) := by decide +kernel
theorem dX9_ahead_14 : decode cX9_ahead 14 = .ok (.iload_n 1, 1) := by decide +kernel
theorem dX9_ahead_15 : decode cX9_ahead 15 = .ok (.iconst 1, 1) := by decide +kernel
theorem dX9_ahead_16 : decode cX9_ahead 16 = .ok (.isub, 1) := by decide +kernel
theorem dX9_ahead_17 : decode cX9_ahead 17 = .ok (.ireturn, 1) := by decide +kernel
theorem dX9_steps_0 : decode cX9_steps 0 = .ok (.iload_n 1, 1) := by decide +kernel
theorem dX9_steps_1 : decode cX9_steps 1 = .ok (.iload_n 2, 1) := by decide +kernel
theorem dX9_steps_2 : decode cX9_steps 2 = .ok (.isub, 1) := by decide +kernel
theorem dX9_steps_3 : decode cX9_steps 3 = .ok (.invokestatic 64, 3) := by decide +kernel
theorem dX9_steps_6 : decode cX9_steps 6 = .ok (.istore_n 3, 1) := by decide +kernel
theorem dX9_steps_7 : decode cX9_steps 7 = .ok (.iload_n 3, 1) := by decide +kernel
theorem dX9_steps_8 : decode cX9_steps 8 = .ok (.aload_n 0, 1) := by decide +kernel
theorem dX9_steps_9 : decode cX9_steps 9 = .ok (.getfield 42, 3) := by decide +kernel
theorem dX9_steps_12 : decode cX9_steps 12 = .ok (.iload_n 3, 1) := by decide +kernel
theorem dX9_steps_13 : decode cX9_steps 13 = .ok (.isub, 1) := by decide +kernel
theorem dX9_steps_14 : decode cX9_steps 14 = .ok (.invokestatic 70, 3) := by decide +kernel
theorem dX9_steps_17 : decode cX9_steps 17 = .ok (.ireturn, 1) := by decide +kernel
theorem dX9_isThursday_0 : decode cX9_isThursday 0 = .ok (.aload_n 0, 1) := by decide +kernel
theorem dX9_isThursday_1 : decode cX9_isThursday 1 = .ok (.getfield 9, 3) := by decide +kernel
theorem dX9_isThursday_4 : decode cX9_isThursday 4 = .ok (.ifCond .le 22, 3) := by decide +kernel
theorem dX9_isThursday_7 : decode cX9_isThursday 7 = .ok (.iload_n 1, 1) := by decide +kernel
theorem dX9_isThursday_8 : decode cX9_isThursday 8 = .ok (.aload_n 0, 1) := by decide +kernel
theorem dX9_isThursday_9 : decode cX9_isThursday 9 = .ok (.getfield 9, 3) := by decide +kernel
theorem dX9_isThursday_12 : decode cX9_isThursday 12 = .ok (.irem, 1) := by decide +kernel
theorem dX9_isThursday_13 : decode cX9_isThursday 13 = .ok (.aload_n 0, 1) := by decide +kernel
theorem dX9_isThursday_14 : decode cX9_isThursday 14 = .ok (.getfield 9, 3) := by decide +kernel
theorem dX9_isThursday_17 : decode cX9_isThursday 17 = .ok (.iconst 1, 1) := by decide +kernel
theorem dX9_isThursday_18 : decode cX9_isThursday 18 = .ok (.isub, 1) := by decide +kernel
theorem dX9_isThursday_19 : decode cX9_isThursday 19 = .ok (.if_icmp .ne 7, 3) := by decide +kernel
theorem dX9_isThursday_22 : decode cX9_isThursday 22 = .ok (.iconst 1, 1) := by decide +kernel
theorem dX9_isThursday_23 : decode cX9_isThursday 23 = .ok (.goto 4, 3) := by decide +kernel
theorem dX9_isThursday_26 : decode cX9_isThursday 26 = .ok (.iconst 0, 1) := by decide +kernel
theorem dX9_isThursday_27 : decode cX9_isThursday 27 = .ok (.ireturn, 1) := by decide +kernel
theorem dX9_begin_0 : decode cX9_begin 0 = .ok (.aload_n 1, 1) := by decide +kernel
theorem dX9_begin_1 : decode cX9_begin 1 = .ok (.iconst 1, 1) := by decide +kernel
theorem dX9_begin_2 : decode cX9_begin 2 = .ok (.putfield 74, 3) := by decide +kernel
theorem dX9_begin_5 : decode cX9_begin 5 = .ok (.aload_n 1, 1) := by decide +kernel
theorem dX9_begin_6 : decode cX9_begin 6 = .ok (.aload_n 0, 1) := by decide +kernel
theorem dX9_begin_7 : decode cX9_begin 7 = .ok (.getfield 61, 3) := by decide +kernel
theorem dX9_begin_10 : decode cX9_begin 10 = .ok (.putfield 77, 3) := by decide +kernel
theorem dX9_begin_13 : decode cX9_begin 13 = .ok (.aload_n 1, 1) := by decide +kernel
theorem dX9_begin_14 : decode cX9_begin 14 = .ok (.aload_n 0, 1) := by decide +kernel
theorem dX9_begin_15 : decode cX9_begin 15 = .ok (.getfield 61, 3) := by decide +kernel
theorem dX9_begin_18 : decode cX9_begin 18 = .ok (.putfield 80, 3) := by decide +kernel
theorem dX9_begin_21 : decode cX9_begin 21 = .ok (.return_, 1) := by decide +kernel
theorem dX9_end_0 : decode cX9_end 0 = .ok (.aload_n 1, 1) := by decide +kernel
theorem dX9_end_1 : decode cX9_end 1 = .ok (.aload_n 0, 1) := by decide +kernel
theorem dX9_end_2 : decode cX9_end 2 = .ok (.getfield 61, 3) := by decide +kernel
theorem dX9_end_5 : decode cX9_end 5 = .ok (.putfield 80, 3) := by decide +kernel
theorem dX9_end_8 : decode cX9_end 8 = .ok (.return_, 1) := by decide +kernel
theorem dX9_append_0 : decode cX9_append 0 = .ok (.aload_n 0, 1) := by decide +kernel
theorem dX9_append_1 : decode cX9_append 1 = .ok (.getfield 61, 3) := by decide +kernel
theorem dX9_append_4 : decode cX9_append 4 = .ok (.aload_n 0, 1) := by decide +kernel
theorem dX9_append_5 : decode cX9_append 5 = .ok (.getfield 36, 3) := by decide +kernel
theorem dX9_append_8 : decode cX9_append 8 = .ok (.arraylength, 1) := by decide +kernel
theorem dX9_append_9 : decode cX9_append 9 = .ok (.if_icmp .ge 23, 3) := by decide +kernel
theorem dX9_append_12 : decode cX9_append 12 = .ok (.aload_n 0, 1) := by decide +kernel
theorem dX9_append_13 : decode cX9_append 13 = .ok (.getfield 36, 3) := by decide +kernel
theorem dX9_append_16 : decode cX9_append 16 = .ok (.aload_n 0, 1) := by decide +kernel
theorem dX9_append_17 : decode cX9_append 17 = .ok (.getfield 61, 3) := by decide +kernel
theorem dX9_append_20 : decode cX9_append 20 = .ok (.iload_n 1, 1) := by decide +kernel
theorem dX9_append_21 : decode cX9_append 21 = .ok (.iastore, 1) := by decide +kernel
theorem dX9_append_22 : decode cX9_append 22 = .ok (.aload_n 0, 1) := by decide +kernel
theorem dX9_append_23 : decode cX9_append 23 = .ok (.dup, 1) := by decide +kernel
theorem dX9_append_24 : decode cX9_append 24 = .ok (.getfield 61, 3) := by decide +kernel
theorem dX9_append_27 : decode cX9_append 27 = .ok (.iconst 1, 1) := by decide +kernel
theorem dX9_append_28 : decode cX9_append 28 = .ok (.iadd, 1) := by decide +kernel
theorem dX9_append_29 : decode cX9_append 29 = .ok (.putfield 61, 3) := by decide +kernel
theorem dX9_append_32 : decode cX9_append 32 = .ok (.return_, 1) := by decide +kernel
theorem dX9_worthOf_0 : decode cX9_worthOf 0 = .ok (.iconst 0, 1) := by decide +kernel
theorem dX9_worthOf_1 : decode cX9_worthOf 1 = .ok (.istore 4, 2) := by decide +kernel
theorem dX9_worthOf_3 : decode cX9_worthOf 3 = .ok (.aload_n 1, 1) := by decide +kernel
theorem dX9_worthOf_4 : decode cX9_worthOf 4 = .ok (.getfield 77, 3) := by decide +kernel
theorem dX9_worthOf_7 : decode cX9_worthOf 7 = .ok (.istore 5, 2) := by decide +kernel
theorem dX9_worthOf_9 : decode cX9_worthOf 9 = .ok (.iload 5, 2) := by decide +kernel
theorem dX9_worthOf_11 : decode cX9_worthOf 11 = .ok (.aload_n 1, 1) := by decide +kernel
theorem dX9_worthOf_12 : decode cX9_worthOf 12 = .ok (.getfield 80, 3) := by decide +kernel
theorem dX9_worthOf_15 : decode cX9_worthOf 15 = .ok (.if_icmp .ge 163, 3) := by decide +kernel
theorem dX9_worthOf_18 : decode cX9_worthOf 18 = .ok (.iload 5, 2) := by decide +kernel
theorem dX9_worthOf_20 : decode cX9_worthOf 20 = .ok (.aload_n 0, 1) := by decide +kernel
theorem dX9_worthOf_21 : decode cX9_worthOf 21 = .ok (.getfield 36, 3) := by decide +kernel
theorem dX9_worthOf_24 : decode cX9_worthOf 24 = .ok (.arraylength, 1) := by decide +kernel
theorem dX9_worthOf_25 : decode cX9_worthOf 25 = .ok (.if_icmp .ge 153, 3) := by decide +kernel
theorem dX9_worthOf_28 : decode cX9_worthOf 28 = .ok (.aload_n 0, 1) := by decide +kernel
theorem dX9_worthOf_29 : decode cX9_worthOf 29 = .ok (.getfield 36, 3) := by decide +kernel
theorem dX9_worthOf_32 : decode cX9_worthOf 32 = .ok (.iload 5, 2) := by decide +kernel
theorem dX9_worthOf_34 : decode cX9_worthOf 34 = .ok (.iaload, 1) := by decide +kernel
theorem dX9_worthOf_35 : decode cX9_worthOf 35 = .ok (.istore 6, 2) := by decide +kernel
theorem dX9_worthOf_37 : decode cX9_worthOf 37 = .ok (.iload 6, 2) := by decide +kernel
theorem dX9_worthOf_39 : decode cX9_worthOf 39 = .ok (.bipush (-7), 2) := by decide +kernel
theorem dX9_worthOf_41 : decode cX9_worthOf 41 = .ok (.if_icmp .le 46, 3) := by decide +kernel
theorem dX9_worthOf_44 : decode cX9_worthOf 44 = .ok (.iload 4, 2) := by decide +kernel
theorem dX9_worthOf_46 : decode cX9_worthOf 46 = .ok (.aload_n 0, 1) := by decide +kernel
theorem dX9_worthOf_47 : decode cX9_worthOf 47 = .ok (.getfield 39, 3) := by decide +kernel
theorem dX9_worthOf_50 : decode cX9_worthOf 50 = .ok (.arraylength, 1) := by decide +kernel
theorem dX9_worthOf_51 : decode cX9_worthOf 51 = .ok (.if_icmp .lt 5, 3) := by decide +kernel
theorem dX9_worthOf_54 : decode cX9_worthOf 54 = .ok (.iconst 0, 1) := by decide +kernel
theorem dX9_worthOf_55 : decode cX9_worthOf 55 = .ok (.ireturn, 1) := by decide +kernel
theorem dX9_worthOf_56 : decode cX9_worthOf 56 = .ok (.aload_n 0, 1) := by decide +kernel
theorem dX9_worthOf_57 : decode cX9_worthOf 57 = .ok (.getfield 39, 3) := by decide +kernel
theorem dX9_worthOf_60 : decode cX9_worthOf 60 = .ok (.iload 4, 2) := by decide +kernel
theorem dX9_worthOf_62 : decode cX9_worthOf 62 = .ok (.iload 6, 2) := by decide +kernel
theorem dX9_worthOf_64 : decode cX9_worthOf 64 = .ok (.ifCond .lt 8, 3) := by decide +kernel
theorem dX9_worthOf_67 : decode cX9_worthOf 67 = .ok (.iload 6, 2) := by decide +kernel
theorem dX9_worthOf_69 : decode cX9_worthOf 69 = .ok (.goto 11, 3) := by decide +kernel
theorem dX9_worthOf_72 : decode cX9_worthOf 72 = .ok (.aload_n 2, 1) := by decide +kernel
theorem dX9_worthOf_73 : decode cX9_worthOf 73 = .ok (.aload_n 0, 1) := by decide +kernel
theorem dX9_worthOf_74 : decode cX9_worthOf 74 = .ok (.iload 6, 2) := by decide +kernel
theorem dX9_worthOf_76 : decode cX9_worthOf 76 = .ok (.iload_n 3, 1) := by decide +kernel
theorem dX9_worthOf_77 : decode cX9_worthOf 77 = .ok (.invokevirtual 83, 3) := by decide +kernel
theorem dX9_worthOf_80 : decode cX9_worthOf 80 = .ok (.iastore, 1) := by decide +kernel
theorem dX9_worthOf_81 : decode cX9_worthOf 81 = .ok (.iinc 4 1, 3) := by decide +kernel
theorem dX9_worthOf_84 : decode cX9_worthOf 84 = .ok (.goto 88, 3) := by decide +kernel
theorem dX9_worthOf_87 : decode cX9_worthOf 87 = .ok (.iload 6, 2) := by decide +kernel
theorem dX9_worthOf_89 : decode cX9_worthOf 89 = .ok (.bipush (-7), 2) := by decide +kernel
theorem dX9_worthOf_91 : decode cX9_worthOf 91 = .ok (.if_icmp .ne 40, 3) := by decide +kernel
theorem dX9_worthOf_94 : decode cX9_worthOf 94 = .ok (.iload 4, 2) := by decide +kernel
theorem dX9_worthOf_96 : decode cX9_worthOf 96 = .ok (.iconst 1, 1) := by decide +kernel
theorem dX9_worthOf_97 : decode cX9_worthOf 97 = .ok (.if_icmp .ge 5, 3) := by decide +kernel
theorem dX9_worthOf_100 : decode cX9_worthOf 100 = .ok (.iconst 0, 1) := by decide +kernel
theorem dX9_worthOf_101 : decode cX9_worthOf 101 = .ok (.ireturn, 1) := by decide +kernel
theorem dX9_worthOf_102 : decode cX9_worthOf 102 = .ok (.aload_n 0, 1) := by decide +kernel
theorem dX9_worthOf_103 : decode cX9_worthOf 103 = .ok (.getfield 39, 3) := by decide +kernel
theorem dX9_worthOf_106 : decode cX9_worthOf 106 = .ok (.iload 4, 2) := by decide +kernel
theorem dX9_worthOf_108 : decode cX9_worthOf 108 = .ok (.iconst 1, 1) := by decide +kernel
theorem dX9_worthOf_109 : decode cX9_worthOf 109 = .ok (.isub, 1) := by decide +kernel
theorem dX9_worthOf_110 : decode cX9_worthOf 110 = .ok (.aload_n 0, 1) := by decide +kernel
theorem dX9_worthOf_111 : decode cX9_worthOf 111 = .ok (.getfield 39, 3) := by decide +kernel
theorem dX9_worthOf_114 : decode cX9_worthOf 114 = .ok (.iload 4, 2) := by decide +kernel
theorem dX9_worthOf_116 : decode cX9_worthOf 116 = .ok (.iconst 1, 1) := by decide +kernel
theorem dX9_worthOf_117 : decode cX9_worthOf 117 = .ok (.isub, 1) := by decide +kernel
theorem dX9_worthOf_118 : decode cX9_worthOf 118 = .ok (.iaload, 1) := by decide +kernel
theorem dX9_worthOf_119 : decode cX9_worthOf 119 = .ok (.ifCond .ne 7, 3) := by decide +kernel
theorem dX9_worthOf_122 : decode cX9_worthOf 122 = .ok (.iconst 1, 1) := by decide +kernel
theorem dX9_worthOf_123 : decode cX9_worthOf 123 = .ok (.goto 4, 3) := by decide +kernel
theorem dX9_worthOf_126 : decode cX9_worthOf 126 = .ok (.iconst 0, 1) := by decide +kernel
theorem dX9_worthOf_127 : decode cX9_worthOf 127 = .ok (.iastore, 1) := by decide +kernel
theorem dX9_worthOf_128 : decode cX9_worthOf 128 = .ok (.goto 44, 3) := by decide +kernel
theorem dX9_worthOf_131 : decode cX9_worthOf 131 = .ok (.iload 4, 2) := by decide +kernel
theorem dX9_worthOf_133 : decode cX9_worthOf 133 = .ok (.iconst 2, 1) := by decide +kernel
theorem dX9_worthOf_134 : decode cX9_worthOf 134 = .ok (.if_icmp .ge 5, 3) := by decide +kernel
theorem dX9_worthOf_137 : decode cX9_worthOf 137 = .ok (.iconst 0, 1) := by decide +kernel
theorem dX9_worthOf_138 : decode cX9_worthOf 138 = .ok (.ireturn, 1) := by decide +kernel
theorem dX9_worthOf_139 : decode cX9_worthOf 139 = .ok (.iinc 4 (-1), 3) := by decide +kernel
theorem dX9_worthOf_142 : decode cX9_worthOf 142 = .ok (.aload_n 0, 1) := by decide +kernel
theorem dX9_worthOf_143 : decode cX9_worthOf 143 = .ok (.getfield 39, 3) := by decide +kernel
theorem dX9_worthOf_146 : decode cX9_worthOf 146 = .ok (.iload 4, 2) := by decide +kernel
theorem dX9_worthOf_148 : decode cX9_worthOf 148 = .ok (.iconst 1, 1) := by decide +kernel
theorem dX9_worthOf_149 : decode cX9_worthOf 149 = .ok (.isub, 1) := by decide +kernel
theorem dX9_worthOf_150 : decode cX9_worthOf 150 = .ok (.iload 6, 2) := by decide +kernel
theorem dX9_worthOf_152 : decode cX9_worthOf 152 = .ok (.aload_n 0, 1) := by decide +kernel
theorem dX9_worthOf_153 : decode cX9_worthOf 153 = .ok (.getfield 39, 3) := by decide +kernel
theorem dX9_worthOf_156 : decode cX9_worthOf 156 = .ok (.iload 4, 2) := by decide +kernel
theorem dX9_worthOf_158 : decode cX9_worthOf 158 = .ok (.iconst 1, 1) := by decide +kernel
theorem dX9_worthOf_159 : decode cX9_worthOf 159 = .ok (.isub, 1) := by decide +kernel
theorem dX9_worthOf_160 : decode cX9_worthOf 160 = .ok (.iaload, 1) := by decide +kernel
theorem dX9_worthOf_161 : decode cX9_worthOf 161 = .ok (.aload_n 0, 1) := by decide +kernel
theorem dX9_worthOf_162 : decode cX9_worthOf 162 = .ok (.getfield 39, 3) := by decide +kernel
theorem dX9_worthOf_165 : decode cX9_worthOf 165 = .ok (.iload 4, 2) := by decide +kernel
theorem dX9_worthOf_167 : decode cX9_worthOf 167 = .ok (.iaload, 1) := by decide +kernel
theorem dX9_worthOf_168 : decode cX9_worthOf 168 = .ok (.invokestatic 89, 3) := by decide +kernel
theorem dX9_worthOf_171 : decode cX9_worthOf 171 = .ok (.iastore, 1) := by decide +kernel
theorem dX9_worthOf_172 : decode cX9_worthOf 172 = .ok (.iinc 5 1, 3) := by decide +kernel
theorem dX9_worthOf_175 : decode cX9_worthOf 175 = .ok (.goto (-166), 3) := by decide +kernel
theorem dX9_worthOf_178 : decode cX9_worthOf 178 = .ok (.iload 4, 2) := by decide +kernel
theorem dX9_worthOf_180 : decode cX9_worthOf 180 = .ok (.iconst 1, 1) := by decide +kernel
theorem dX9_worthOf_181 : decode cX9_worthOf 181 = .ok (.if_icmp .ge 7, 3) := by decide +kernel
theorem dX9_worthOf_184 : decode cX9_worthOf 184 = .ok (.iconst 0, 1) := by decide +kernel
theorem dX9_worthOf_185 : decode cX9_worthOf 185 = .ok (.goto 9, 3) := by decide +kernel
theorem dX9_worthOf_188 : decode cX9_worthOf 188 = .ok (.aload_n 0, 1) := by decide +kernel
theorem dX9_worthOf_189 : decode cX9_worthOf 189 = .ok (.getfield 39, 3) := by decide +kernel
theorem dX9_worthOf_192 : decode cX9_worthOf 192 = .ok (.iconst 0, 1) := by decide +kernel
theorem dX9_worthOf_193 : decode cX9_worthOf 193 = .ok (.iaload, 1) := by decide +kernel
theorem dX9_worthOf_194 : decode cX9_worthOf 194 = .ok (.ireturn, 1) := by decide +kernel
theorem dX9_join_0 : decode cX9_join 0 = .ok (.iload_n 0, 1) := by decide +kernel
theorem dX9_join_1 : decode cX9_join 1 = .ok (.tableswitch 105 (-14) (-8) #[101, 97, 93, 82, 71, 57, 43], 43) := by decide +kernel
theorem dX9_join_44 : decode cX9_join 44 = .ok (.iload_n 1, 1) := by decide +kernel
theorem dX9_join_45 : decode cX9_join 45 = .ok (.ifCond .ne 7, 3) := by decide +kernel
theorem dX9_join_48 : decode cX9_join 48 = .ok (.iload_n 2, 1) := by decide +kernel
theorem dX9_join_49 : decode cX9_join 49 = .ok (.ifCond .eq 7, 3) := by decide +kernel
theorem dX9_join_52 : decode cX9_join 52 = .ok (.iconst 1, 1) := by decide +kernel
theorem dX9_join_53 : decode cX9_join 53 = .ok (.goto 4, 3) := by decide +kernel
theorem dX9_join_56 : decode cX9_join 56 = .ok (.iconst 0, 1) := by decide +kernel
theorem dX9_join_57 : decode cX9_join 57 = .ok (.ireturn, 1) := by decide +kernel
theorem dX9_join_58 : decode cX9_join 58 = .ok (.iload_n 1, 1) := by decide +kernel
theorem dX9_join_59 : decode cX9_join 59 = .ok (.ifCond .eq 11, 3) := by decide +kernel
theorem dX9_join_62 : decode cX9_join 62 = .ok (.iload_n 2, 1) := by decide +kernel
theorem dX9_join_63 : decode cX9_join 63 = .ok (.ifCond .eq 7, 3) := by decide +kernel
theorem dX9_join_66 : decode cX9_join 66 = .ok (.iconst 1, 1) := by decide +kernel
theorem dX9_join_67 : decode cX9_join 67 = .ok (.goto 4, 3) := by decide +kernel
theorem dX9_join_70 : decode cX9_join 70 = .ok (.iconst 0, 1) := by decide +kernel
theorem dX9_join_71 : decode cX9_join 71 = .ok (.ireturn, 1) := by decide +kernel
theorem dX9_join_72 : decode cX9_join 72 = .ok (.iload_n 1, 1) := by decide +kernel
theorem dX9_join_73 : decode cX9_join 73 = .ok (.iload_n 2, 1) := by decide +kernel
theorem dX9_join_74 : decode cX9_join 74 = .ok (.if_icmp .ge 7, 3) := by decide +kernel
theorem dX9_join_77 : decode cX9_join 77 = .ok (.iconst 1, 1) := by decide +kernel
theorem dX9_join_78 : decode cX9_join 78 = .ok (.goto 4, 3) := by decide +kernel
theorem dX9_join_81 : decode cX9_join 81 = .ok (.iconst 0, 1) := by decide +kernel
theorem dX9_join_82 : decode cX9_join 82 = .ok (.ireturn, 1) := by decide +kernel
theorem dX9_join_83 : decode cX9_join 83 = .ok (.iload_n 1, 1) := by decide +kernel
theorem dX9_join_84 : decode cX9_join 84 = .ok (.iload_n 2, 1) := by decide +kernel
theorem dX9_join_85 : decode cX9_join 85 = .ok (.if_icmp .ne 7, 3) := by decide +kernel
theorem dX9_join_88 : decode cX9_join 88 = .ok (.iconst 1, 1) := by decide +kernel
theorem dX9_join_89 : decode cX9_join 89 = .ok (.goto 4, 3) := by decide +kernel
theorem dX9_join_92 : decode cX9_join 92 = .ok (.iconst 0, 1) := by decide +kernel
theorem dX9_join_93 : decode cX9_join 93 = .ok (.ireturn, 1) := by decide +kernel
theorem dX9_join_94 : decode cX9_join 94 = .ok (.iload_n 1, 1) := by decide +kernel
theorem dX9_join_95 : decode cX9_join 95 = .ok (.iload_n 2, 1) := by decide +kernel
theorem dX9_join_96 : decode cX9_join 96 = .ok (.iadd, 1) := by decide +kernel
theorem dX9_join_97 : decode cX9_join 97 = .ok (.ireturn, 1) := by decide +kernel
theorem dX9_join_98 : decode cX9_join 98 = .ok (.iload_n 1, 1) := by decide +kernel
theorem dX9_join_99 : decode cX9_join 99 = .ok (.iload_n 2, 1) := by decide +kernel
theorem dX9_join_100 : decode cX9_join 100 = .ok (.isub, 1) := by decide +kernel
theorem dX9_join_101 : decode cX9_join 101 = .ok (.ireturn, 1) := by decide +kernel
theorem dX9_join_102 : decode cX9_join 102 = .ok (.iload_n 1, 1) := by decide +kernel
theorem dX9_join_103 : decode cX9_join 103 = .ok (.iload_n 2, 1) := by decide +kernel
theorem dX9_join_104 : decode cX9_join 104 = .ok (.imul, 1) := by decide +kernel
theorem dX9_join_105 : decode cX9_join 105 = .ok (.ireturn, 1) := by decide +kernel
theorem dX9_join_106 : decode cX9_join 106 = .ok (.iload_n 2, 1) := by decide +kernel
theorem dX9_join_107 : decode cX9_join 107 = .ok (.ifCond .ne 7, 3) := by decide +kernel
theorem dX9_join_110 : decode cX9_join 110 = .ok (.iconst 0, 1) := by decide +kernel
theorem dX9_join_111 : decode cX9_join 111 = .ok (.goto 6, 3) := by decide +kernel
theorem dX9_join_114 : decode cX9_join 114 = .ok (.iload_n 1, 1) := by decide +kernel
theorem dX9_join_115 : decode cX9_join 115 = .ok (.iload_n 2, 1) := by decide +kernel
theorem dX9_join_116 : decode cX9_join 116 = .ok (.idiv, 1) := by decide +kernel
theorem dX9_join_117 : decode cX9_join 117 = .ok (.ireturn, 1) := by decide +kernel

theorem dX5_init_0 : decode cX5_init 0 = .ok (.aload_n 0, 1) := by decide +kernel
theorem dX5_init_1 : decode cX5_init 1 = .ok (.invokespecial 3, 3) := by decide +kernel
theorem dX5_init_4 : decode cX5_init 4 = .ok (.aload_n 0, 1) := by decide +kernel
theorem dX5_init_5 : decode cX5_init 5 = .ok (.iconst 0, 1) := by decide +kernel
theorem dX5_init_6 : decode cX5_init 6 = .ok (.putfield 9, 3) := by decide +kernel
theorem dX5_init_9 : decode cX5_init 9 = .ok (.aload_n 0, 1) := by decide +kernel
theorem dX5_init_10 : decode cX5_init 10 = .ok (.iconst (-1), 1) := by decide +kernel
theorem dX5_init_11 : decode cX5_init 11 = .ok (.putfield 15, 3) := by decide +kernel
theorem dX5_init_14 : decode cX5_init 14 = .ok (.aload_n 0, 1) := by decide +kernel
theorem dX5_init_15 : decode cX5_init 15 = .ok (.iconst 0, 1) := by decide +kernel
theorem dX5_init_16 : decode cX5_init 16 = .ok (.putfield 18, 3) := by decide +kernel
theorem dX5_init_19 : decode cX5_init 19 = .ok (.aload_n 0, 1) := by decide +kernel
theorem dX5_init_20 : decode cX5_init 20 = .ok (.iconst 0, 1) := by decide +kernel
theorem dX5_init_21 : decode cX5_init 21 = .ok (.putfield 21, 3) := by decide +kernel
theorem dX5_init_24 : decode cX5_init 24 = .ok (.aload_n 0, 1) := by decide +kernel
theorem dX5_init_25 : decode cX5_init 25 = .ok (.iconst 0, 1) := by decide +kernel
theorem dX5_init_26 : decode cX5_init 26 = .ok (.putfield 24, 3) := by decide +kernel
theorem dX5_init_29 : decode cX5_init 29 = .ok (.aload_n 0, 1) := by decide +kernel
theorem dX5_init_30 : decode cX5_init 30 = .ok (.iconst 0, 1) := by decide +kernel
theorem dX5_init_31 : decode cX5_init 31 = .ok (.putfield 27, 3) := by decide +kernel
theorem dX5_init_34 : decode cX5_init 34 = .ok (.aload_n 0, 1) := by decide +kernel
theorem dX5_init_35 : decode cX5_init 35 = .ok (.iconst 0, 1) := by decide +kernel
theorem dX5_init_36 : decode cX5_init 36 = .ok (.putfield 30, 3) := by decide +kernel
theorem dX5_init_39 : decode cX5_init 39 = .ok (.aload_n 0, 1) := by decide +kernel
theorem dX5_init_40 : decode cX5_init 40 = .ok (.aload_n 1, 1) := by decide +kernel
theorem dX5_init_41 : decode cX5_init 41 = .ok (.putfield 33, 3) := by decide +kernel
theorem dX5_init_44 : decode cX5_init 44 = .ok (.aload_n 0, 1) := by decide +kernel
theorem dX5_init_45 : decode cX5_init 45 = .ok (.iload_n 2, 1) := by decide +kernel
theorem dX5_init_46 : decode cX5_init 46 = .ok (.aload_n 1, 1) := by decide +kernel
theorem dX5_init_47 : decode cX5_init 47 = .ok (.arraylength, 1) := by decide +kernel
theorem dX5_init_48 : decode cX5_init 48 = .ok (.invokestatic 37, 3) := by decide +kernel
theorem dX5_init_51 : decode cX5_init 51 = .ok (.putfield 43, 3) := by decide +kernel
theorem dX5_init_54 : decode cX5_init 54 = .ok (.aload_n 0, 1) := by decide +kernel
theorem dX5_init_55 : decode cX5_init 55 = .ok (.aload_n 3, 1) := by decide +kernel
theorem dX5_init_56 : decode cX5_init 56 = .ok (.putfield 46, 3) := by decide +kernel
theorem dX5_init_59 : decode cX5_init 59 = .ok (.aload_n 0, 1) := by decide +kernel
theorem dX5_init_60 : decode cX5_init 60 = .ok (.aload 4, 2) := by decide +kernel
theorem dX5_init_62 : decode cX5_init 62 = .ok (.putfield 50, 3) := by decide +kernel
theorem dX5_init_65 : decode cX5_init 65 = .ok (.return_, 1) := by decide +kernel
theorem dX5_readText_0 : decode cX5_readText 0 = .ok (.aload_n 0, 1) := by decide +kernel
theorem dX5_readText_1 : decode cX5_readText 1 = .ok (.invokevirtual 54, 3) := by decide +kernel
theorem dX5_readText_4 : decode cX5_readText 4 = .ok (.iconst 0, 1) := by decide +kernel
theorem dX5_readText_5 : decode cX5_readText 5 = .ok (.istore_n 1, 1) := by decide +kernel
theorem dX5_readText_6 : decode cX5_readText 6 = .ok (.iload_n 1, 1) := by decide +kernel
theorem dX5_readText_7 : decode cX5_readText 7 = .ok (.aload_n 0, 1) := by decide +kernel
theorem dX5_readText_8 : decode cX5_readText 8 = .ok (.getfield 43, 3) := by decide +kernel
theorem dX5_readText_11 : decode cX5_readText 11 = .ok (.if_icmp .gt 25, 3) := by decide +kernel
theorem dX5_readText_14 : decode cX5_readText 14 = .ok (.aload_n 0, 1) := by decide +kernel
theorem dX5_readText_15 : decode cX5_readText 15 = .ok (.getfield 21, 3) := by decide +kernel
theorem dX5_readText_18 : decode cX5_readText 18 = .ok (.ifCond .eq 18, 3) := by decide +kernel
theorem dX5_readText_21 : decode cX5_readText 21 = .ok (.aload_n 0, 1) := by decide +kernel
theorem dX5_readText_22 : decode cX5_readText 22 = .ok (.invokevirtual 57, 3) := by decide +kernel
theorem dX5_readText_25 : decode cX5_readText 25 = .ok (.ifCond .ne 5, 3) := by decide +kernel
theorem dX5_readText_28 : decode cX5_readText 28 = .ok (.iconst 0, 1) := by decide +kernel
theorem dX5_readText_29 : decode cX5_readText 29 = .ok (.ireturn, 1) := by decide +kernel
theorem dX5_readText_30 : decode cX5_readText 30 = .ok (.iinc 1 1, 3) := by decide +kernel
theorem dX5_readText_33 : decode cX5_readText 33 = .ok (.goto (-27), 3) := by decide +kernel
theorem dX5_readText_36 : decode cX5_readText 36 = .ok (.iconst 1, 1) := by decide +kernel
theorem dX5_readText_37 : decode cX5_readText 37 = .ok (.ireturn, 1) := by decide +kernel
theorem dX5_fail_0 : decode cX5_fail 0 = .ok (.aload_n 0, 1) := by decide +kernel
theorem dX5_fail_1 : decode cX5_fail 1 = .ok (.iload_n 1, 1) := by decide +kernel
theorem dX5_fail_2 : decode cX5_fail 2 = .ok (.putfield 9, 3) := by decide +kernel
theorem dX5_fail_5 : decode cX5_fail 5 = .ok (.aload_n 0, 1) := by decide +kernel
theorem dX5_fail_6 : decode cX5_fail 6 = .ok (.aload_n 0, 1) := by decide +kernel
theorem dX5_fail_7 : decode cX5_fail 7 = .ok (.getfield 24, 3) := by decide +kernel
theorem dX5_fail_10 : decode cX5_fail 10 = .ok (.putfield 15, 3) := by decide +kernel
theorem dX5_fail_13 : decode cX5_fail 13 = .ok (.iconst 0, 1) := by decide +kernel
theorem dX5_fail_14 : decode cX5_fail 14 = .ok (.ireturn, 1) := by decide +kernel
theorem dX5_takeToken_0 : decode cX5_takeToken 0 = .ok (.aload_n 0, 1) := by decide +kernel
theorem dX5_takeToken_1 : decode cX5_takeToken 1 = .ok (.aload_n 0, 1) := by decide +kernel
theorem dX5_takeToken_2 : decode cX5_takeToken 2 = .ok (.getfield 18, 3) := by decide +kernel
theorem dX5_takeToken_5 : decode cX5_takeToken 5 = .ok (.putfield 24, 3) := by decide +kernel
theorem dX5_takeToken_8 : decode cX5_takeToken 8 = .ok (.aload_n 0, 1) := by decide +kernel
theorem dX5_takeToken_9 : decode cX5_takeToken 9 = .ok (.getfield 18, 3) := by decide +kernel
theorem dX5_takeToken_12 : decode cX5_takeToken 12 = .ok (.istore_n 1, 1) := by decide +kernel
theorem dX5_takeToken_13 : decode cX5_takeToken 13 = .ok (.iload_n 1, 1) := by decide +kernel
theorem dX5_takeToken_14 : decode cX5_takeToken 14 = .ok (.aload_n 0, 1) := by decide +kernel
theorem dX5_takeToken_15 : decode cX5_takeToken 15 = .ok (.getfield 43, 3) := by decide +kernel
theorem dX5_takeToken_18 : decode cX5_takeToken 18 = .ok (.if_icmp .ge 25, 3) := by decide +kernel
theorem dX5_takeToken_21 : decode cX5_takeToken 21 = .ok (.aload_n 0, 1) := by decide +kernel
theorem dX5_takeToken_22 : decode cX5_takeToken 22 = .ok (.iload_n 1, 1) := by decide +kernel
theorem dX5_takeToken_23 : decode cX5_takeToken 23 = .ok (.invokevirtual 61, 3) := by decide +kernel
theorem dX5_takeToken_26 : decode cX5_takeToken 26 = .ok (.iconst 4, 1) := by decide +kernel
theorem dX5_takeToken_27 : decode cX5_takeToken 27 = .ok (.if_icmp .ne 16, 3) := by decide +kernel
theorem dX5_takeToken_30 : decode cX5_takeToken 30 = .ok (.aload_n 0, 1) := by decide +kernel
theorem dX5_takeToken_31 : decode cX5_takeToken 31 = .ok (.iload_n 1, 1) := by decide +kernel
theorem dX5_takeToken_32 : decode cX5_takeToken 32 = .ok (.iconst 1, 1) := by decide +kernel
theorem dX5_takeToken_33 : decode cX5_takeToken 33 = .ok (.iadd, 1) := by decide +kernel
theorem dX5_takeToken_34 : decode cX5_takeToken 34 = .ok (.putfield 24, 3) := by decide +kernel
theorem dX5_takeToken_37 : decode cX5_takeToken 37 = .ok (.iinc 1 1, 3) := by decide +kernel
theorem dX5_takeToken_40 : decode cX5_takeToken 40 = .ok (.goto (-27), 3) := by decide +kernel
theorem dX5_takeToken_43 : decode cX5_takeToken 43 = .ok (.aload_n 0, 1) := by decide +kernel
theorem dX5_takeToken_44 : decode cX5_takeToken 44 = .ok (.aload_n 0, 1) := by decide +kernel
theorem dX5_takeToken_45 : decode cX5_takeToken 45 = .ok (.aload_n 0, 1) := by decide +kernel
theorem dX5_takeToken_46 : decode cX5_takeToken 46 = .ok (.getfield 24, 3) := by decide +kernel
theorem dX5_takeToken_49 : decode cX5_takeToken 49 = .ok (.invokevirtual 61, 3) := by decide +kernel
theorem dX5_takeToken_52 : decode cX5_takeToken 52 = .ok (.putfield 21, 3) := by decide +kernel
theorem dX5_takeToken_55 : decode cX5_takeToken 55 = .ok (.aload_n 0, 1) := by decide +kernel
theorem dX5_takeToken_56 : decode cX5_takeToken 56 = .ok (.aload_n 0, 1) := by decide +kernel
theorem dX5_takeToken_57 : decode cX5_takeToken 57 = .ok (.getfield 24, 3) := by decide +kernel
theorem dX5_takeToken_60 : decode cX5_takeToken 60 = .ok (.iconst 1, 1) := by decide +kernel
theorem dX5_takeToken_61 : decode cX5_takeToken 61 = .ok (.iadd, 1) := by decide +kernel
theorem dX5_takeToken_62 : decode cX5_takeToken 62 = .ok (.aload_n 0, 1) := by decide +kernel
theorem dX5_takeToken_63 : decode cX5_takeToken 63 = .ok (.getfield 43, 3) := by decide +kernel
theorem dX5_takeToken_66 : decode cX5_takeToken 66 = .ok (.invokestatic 37, 3) := by decide +kernel
theorem dX5_takeToken_69 : decode cX5_takeToken 69 = .ok (.putfield 18, 3) := by decide +kernel
theorem dX5_takeToken_72 : decode cX5_takeToken 72 = .ok (.aload_n 0, 1) := by decide +kernel
theorem dX5_takeToken_73 : decode cX5_takeToken 73 = .ok (.getfield 21, 3) := by decide +kernel
theorem dX5_takeToken_76 : decode cX5_takeToken 76 = .ok (.iconst 1, 1) := by decide +kernel
theorem dX5_takeToken_77 : decode cX5_takeToken 77 = .ok (.if_icmp .eq 11, 3) := by decide +kernel
theorem dX5_takeToken_80 : decode cX5_takeToken 80 = .ok (.aload_n 0, 1) := by decide +kernel
theorem dX5_takeToken_81 : decode cX5_takeToken 81 = .ok (.getfield 21, 3) := by decide +kernel
theorem dX5_takeToken_84 : decode cX5_takeToken 84 = .ok (.iconst 2, 1) := by decide +kernel
theorem dX5_takeToken_85 : decode cX5_takeToken 85 = .ok (.if_icmp .ne 41, 3) := by decide +kernel
theorem dX5_takeToken_88 : decode cX5_takeToken 88 = .ok (.aload_n 0, 1) := by decide +kernel
theorem dX5_takeToken_89 : decode cX5_takeToken 89 = .ok (.getfield 18, 3) := by decide +kernel
theorem dX5_takeToken_92 : decode cX5_takeToken 92 = .ok (.istore_n 1, 1) := by decide +kernel
theorem dX5_takeToken_93 : decode cX5_takeToken 93 = .ok (.iload_n 1, 1) := by decide +kernel
theorem dX5_takeToken_94 : decode cX5_takeToken 94 = .ok (.aload_n 0, 1) := by decide +kernel
theorem dX5_takeToken_95 : decode cX5_takeToken 95 = .ok (.getfield 43, 3) := by decide +kernel
theorem dX5_takeToken_98 : decode cX5_takeToken 98 = .ok (.if_icmp .ge 28, 3) := by decide +kernel
theorem dX5_takeToken_101 : decode cX5_takeToken 101 = .ok (.aload_n 0, 1) := by decide +kernel
theorem dX5_takeToken_102 : decode cX5_takeToken 102 = .ok (.iload_n 1, 1) := by decide +kernel
theorem dX5_takeToken_103 : decode cX5_takeToken 103 = .ok (.invokevirtual 61, 3) := by decide +kernel
theorem dX5_takeToken_106 : decode cX5_takeToken 106 = .ok (.aload_n 0, 1) := by decide +kernel
theorem dX5_takeToken_107 : decode cX5_takeToken 107 = .ok (.getfield 21, 3) := by decide +kernel
theorem dX5_takeToken_110 : decode cX5_takeToken 110 = .ok (.if_icmp .ne 16, 3) := by decide +kernel
theorem dX5_takeToken_113 : decode cX5_takeToken 113 = .ok (.aload_n 0, 1) := by decide +kernel
theorem dX5_takeToken_114 : decode cX5_takeToken 114 = .ok (.iload_n 1, 1) := by decide +kernel
theorem dX5_takeToken_115 : decode cX5_takeToken 115 = .ok (.iconst 1, 1) := by decide +kernel
theorem dX5_takeToken_116 : decode cX5_takeToken 116 = .ok (.iadd, 1) := by decide +kernel
theorem dX5_takeToken_117 : decode cX5_takeToken 117 = .ok (.putfield 18, 3) := by decide +kernel
theorem dX5_takeToken_120 : decode cX5_takeToken 120 = .ok (.iinc 1 1, 3) := by decide +kernel
theorem dX5_takeToken_123 : decode cX5_takeToken 123 = .ok (.goto (-30), 3) := by decide +kernel
theorem dX5_takeToken_126 : decode cX5_takeToken 126 = .ok (.aload_n 0, 1) := by decide +kernel
theorem dX5_takeToken_127 : decode cX5_takeToken 127 = .ok (.getfield 21, 3) := by decide +kernel
theorem dX5_takeToken_130 : decode cX5_takeToken 130 = .ok (.iconst 2, 1) := by decide +kernel
theorem dX5_takeToken_131 : decode cX5_takeToken 131 = .ok (.if_icmp .ne 7, 3) := by decide +kernel
theorem dX5_takeToken_134 : decode cX5_takeToken 134 = .ok (.aload_n 0, 1) := by decide +kernel
theorem dX5_takeToken_135 : decode cX5_takeToken 135 = .ok (.invokevirtual 65, 3) := by decide +kernel
theorem dX5_takeToken_138 : decode cX5_takeToken 138 = .ok (.return_, 1) := by decide +kernel
theorem dX5_weighNumber_0 : decode cX5_weighNumber 0 = .ok (.aload_n 0, 1) := by decide +kernel
theorem dX5_weighNumber_1 : decode cX5_weighNumber 1 = .ok (.aload_n 0, 1) := by decide +kernel
theorem dX5_weighNumber_2 : decode cX5_weighNumber 2 = .ok (.getfield 18, 3) := by decide +kernel
theorem dX5_weighNumber_5 : decode cX5_weighNumber 5 = .ok (.aload_n 0, 1) := by decide +kernel
theorem dX5_weighNumber_6 : decode cX5_weighNumber 6 = .ok (.getfield 24, 3) := by decide +kernel
theorem dX5_weighNumber_9 : decode cX5_weighNumber 9 = .ok (.isub, 1) := by decide +kernel
theorem dX5_weighNumber_10 : decode cX5_weighNumber 10 = .ok (.putfield 30, 3) := by decide +kernel
theorem dX5_weighNumber_13 : decode cX5_weighNumber 13 = .ok (.aload_n 0, 1) := by decide +kernel
theorem dX5_weighNumber_14 : decode cX5_weighNumber 14 = .ok (.iconst 0, 1) := by decide +kernel
theorem dX5_weighNumber_15 : decode cX5_weighNumber 15 = .ok (.putfield 27, 3) := by decide +kernel
theorem dX5_weighNumber_18 : decode cX5_weighNumber 18 = .ok (.aload_n 0, 1) := by decide +kernel
theorem dX5_weighNumber_19 : decode cX5_weighNumber 19 = .ok (.getfield 24, 3) := by decide +kernel
theorem dX5_weighNumber_22 : decode cX5_weighNumber 22 = .ok (.istore_n 1, 1) := by decide +kernel
theorem dX5_weighNumber_23 : decode cX5_weighNumber 23 = .ok (.iload_n 1, 1) := by decide +kernel
theorem dX5_weighNumber_24 : decode cX5_weighNumber 24 = .ok (.aload_n 0, 1) := by decide +kernel
theorem dX5_weighNumber_25 : decode cX5_weighNumber 25 = .ok (.getfield 18, 3) := by decide +kernel
theorem dX5_weighNumber_28 : decode cX5_weighNumber 28 = .ok (.if_icmp .ge 40, 3) := by decide +kernel
theorem dX5_weighNumber_31 : decode cX5_weighNumber 31 = .ok (.iload_n 1, 1) := by decide +kernel
theorem dX5_weighNumber_32 : decode cX5_weighNumber 32 = .ok (.aload_n 0, 1) := by decide +kernel
theorem dX5_weighNumber_33 : decode cX5_weighNumber 33 = .ok (.getfield 24, 3) := by decide +kernel
theorem dX5_weighNumber_36 : decode cX5_weighNumber 36 = .ok (.iconst 4, 1) := by decide +kernel
theorem dX5_weighNumber_37 : decode cX5_weighNumber 37 = .ok (.iadd, 1) := by decide +kernel
theorem dX5_weighNumber_38 : decode cX5_weighNumber 38 = .ok (.if_icmp .ge 30, 3) := by decide +kernel
theorem dX5_weighNumber_41 : decode cX5_weighNumber 41 = .ok (.aload_n 0, 1) := by decide +kernel
theorem dX5_weighNumber_42 : decode cX5_weighNumber 42 = .ok (.bipush 10, 2) := by decide +kernel
theorem dX5_weighNumber_44 : decode cX5_weighNumber 44 = .ok (.aload_n 0, 1) := by decide +kernel
theorem dX5_weighNumber_45 : decode cX5_weighNumber 45 = .ok (.getfield 27, 3) := by decide +kernel
theorem dX5_weighNumber_48 : decode cX5_weighNumber 48 = .ok (.imul, 1) := by decide +kernel
theorem dX5_weighNumber_49 : decode cX5_weighNumber 49 = .ok (.aload_n 0, 1) := by decide +kernel
theorem dX5_weighNumber_50 : decode cX5_weighNumber 50 = .ok (.getfield 33, 3) := by decide +kernel
theorem dX5_weighNumber_53 : decode cX5_weighNumber 53 = .ok (.iload_n 1, 1) := by decide +kernel
theorem dX5_weighNumber_54 : decode cX5_weighNumber 54 = .ok (.baload, 1) := by decide +kernel
theorem dX5_weighNumber_55 : decode cX5_weighNumber 55 = .ok (.iadd, 1) := by decide +kernel
theorem dX5_weighNumber_56 : decode cX5_weighNumber 56 = .ok (.bipush 48, 2) := by decide +kernel
theorem dX5_weighNumber_58 : decode cX5_weighNumber 58 = .ok (.isub, 1) := by decide +kernel
theorem dX5_weighNumber_59 : decode cX5_weighNumber 59 = .ok (.putfield 27, 3) := by decide +kernel
theorem dX5_weighNumber_62 : decode cX5_weighNumber 62 = .ok (.iinc 1 1, 3) := by decide +kernel
theorem dX5_weighNumber_65 : decode cX5_weighNumber 65 = .ok (.goto (-42), 3) := by decide +kernel
theorem dX5_weighNumber_68 : decode cX5_weighNumber 68 = .ok (.return_, 1) := by decide +kernel
theorem dX5_kindAt_0 : decode cX5_kindAt 0 = .ok (.iload_n 1, 1) := by decide +kernel
theorem dX5_kindAt_1 : decode cX5_kindAt 1 = .ok (.ifCond .lt 11, 3) := by decide +kernel
theorem dX5_kindAt_4 : decode cX5_kindAt 4 = .ok (.iload_n 1, 1) := by decide +kernel
theorem dX5_kindAt_5 : decode cX5_kindAt 5 = .ok (.aload_n 0, 1) := by decide +kernel
theorem dX5_kindAt_6 : decode cX5_kindAt 6 = .ok (.getfield 43, 3) := by decide +kernel
theorem dX5_kindAt_9 : decode cX5_kindAt 9 = .ok (.if_icmp .lt 5, 3) := by decide +kernel
theorem dX5_kindAt_12 : decode cX5_kindAt 12 = .ok (.iconst 0, 1) := by decide +kernel
theorem dX5_kindAt_13 : decode cX5_kindAt 13 = .ok (.ireturn, 1) := by decide +kernel
theorem dX5_kindAt_14 : decode cX5_kindAt 14 = .ok (.aload_n 0, 1) := by decide +kernel
theorem dX5_kindAt_15 : decode cX5_kindAt 15 = .ok (.getfield 33, 3) := by decide +kernel
theorem dX5_kindAt_18 : decode cX5_kindAt 18 = .ok (.iload_n 1, 1) := by decide +kernel
theorem dX5_kindAt_19 : decode cX5_kindAt 19 = .ok (.baload, 1) := by decide +kernel
theorem dX5_kindAt_20 : decode cX5_kindAt 20 = .ok (.istore_n 2, 1) := by decide +kernel
theorem dX5_kindAt_21 : decode cX5_kindAt 21 = .ok (.iload_n 2, 1) := by decide +kernel
theorem dX5_kindAt_22 : decode cX5_kindAt 22 = .ok (.bipush 97, 2) := by decide +kernel
theorem dX5_kindAt_24 : decode cX5_kindAt 24 = .ok (.if_icmp .lt 11, 3) := by decide +kernel
theorem dX5_kindAt_27 : decode cX5_kindAt 27 = .ok (.iload_n 2, 1) := by decide +kernel
theorem dX5_kindAt_28 : decode cX5_kindAt 28 = .ok (.bipush 122, 2) := by decide +kernel
theorem dX5_kindAt_30 : decode cX5_kindAt 30 = .ok (.if_icmp .gt 5, 3) := by decide +kernel
theorem dX5_kindAt_33 : decode cX5_kindAt 33 = .ok (.iconst 1, 1) := by decide +kernel
theorem dX5_kindAt_34 : decode cX5_kindAt 34 = .ok (.ireturn, 1) := by decide +kernel
theorem dX5_kindAt_35 : decode cX5_kindAt 35 = .ok (.iload_n 2, 1) := by decide +kernel
theorem dX5_kindAt_36 : decode cX5_kindAt 36 = .ok (.bipush 48, 2) := by decide +kernel
theorem dX5_kindAt_38 : decode cX5_kindAt 38 = .ok (.if_icmp .lt 11, 3) := by decide +kernel
theorem dX5_kindAt_41 : decode cX5_kindAt 41 = .ok (.iload_n 2, 1) := by decide +kernel
theorem dX5_kindAt_42 : decode cX5_kindAt 42 = .ok (.bipush 57, 2) := by decide +kernel
theorem dX5_kindAt_44 : decode cX5_kindAt 44 = .ok (.if_icmp .gt 5, 3) := by decide +kernel
theorem dX5_kindAt_47 : decode cX5_kindAt 47 = .ok (.iconst 2, 1) := by decide +kernel
theorem dX5_kindAt_48 : decode cX5_kindAt 48 = .ok (.ireturn, 1) := by decide +kernel
theorem dX5_kindAt_49 : decode cX5_kindAt 49 = .ok (.iload_n 2, 1) := by decide +kernel
theorem dX5_kindAt_50 : decode cX5_kindAt 50 = .ok (.lookupswitch 102 #[(10, 98), (32, 98), (40, 100), (41, 100), (42, 100), (43, 100), (45, 100), (47, 100), (59, 100), (60, 100), (61, 100)], 98) := by decide +kernel
theorem dX5_kindAt_148 : decode cX5_kindAt 148 = .ok (.iconst 4, 1) := by decide +kernel
theorem dX5_kindAt_149 : decode cX5_kindAt 149 = .ok (.ireturn, 1) := by decide +kernel
theorem dX5_kindAt_150 : decode cX5_kindAt 150 = .ok (.iconst 3, 1) := by decide +kernel
theorem dX5_kindAt_151 : decode cX5_kindAt 151 = .ok (.ireturn, 1) := by decide +kernel
theorem dX5_kindAt_152 : decode cX5_kindAt 152 = .ok (.iconst 5, 1) := by decide +kernel
theorem dX5_kindAt_153 : decode cX5_kindAt 153 = .ok (.ireturn, 1) := by decide +kernel
theorem dX5_isWord_0 : decode cX5_isWord 0 = .ok (.aload_n 0, 1) := by decide +kernel
theorem dX5_isWord_1 : decode cX5_isWord 1 = .ok (.getfield 21, 3) := by decide +kernel
theorem dX5_isWord_4 : decode cX5_isWord 4 = .ok (.iconst 1, 1) := by decide +kernel
theorem dX5_isWord_5 : decode cX5_isWord 5 = .ok (.if_icmp .ne 26, 3) := by decide +kernel
theorem dX5_isWord_8 : decode cX5_isWord 8 = .ok (.aload_n 1, 1) := by decide +kernel
theorem dX5_isWord_9 : decode cX5_isWord 9 = .ok (.aload_n 0, 1) := by decide +kernel
theorem dX5_isWord_10 : decode cX5_isWord 10 = .ok (.getfield 33, 3) := by decide +kernel
theorem dX5_isWord_13 : decode cX5_isWord 13 = .ok (.aload_n 0, 1) := by decide +kernel
theorem dX5_isWord_14 : decode cX5_isWord 14 = .ok (.getfield 24, 3) := by decide +kernel
theorem dX5_isWord_17 : decode cX5_isWord 17 = .ok (.aload_n 0, 1) := by decide +kernel
theorem dX5_isWord_18 : decode cX5_isWord 18 = .ok (.getfield 18, 3) := by decide +kernel
theorem dX5_isWord_21 : decode cX5_isWord 21 = .ok (.invokevirtual 68, 3) := by decide +kernel
theorem dX5_isWord_24 : decode cX5_isWord 24 = .ok (.ifCond .eq 7, 3) := by decide +kernel
theorem dX5_isWord_27 : decode cX5_isWord 27 = .ok (.iconst 1, 1) := by decide +kernel
theorem dX5_isWord_28 : decode cX5_isWord 28 = .ok (.goto 4, 3) := by decide +kernel
theorem dX5_isWord_31 : decode cX5_isWord 31 = .ok (.iconst 0, 1) := by decide +kernel
theorem dX5_isWord_32 : decode cX5_isWord 32 = .ok (.ireturn, 1) := by decide +kernel
theorem dX5_isSign_0 : decode cX5_isSign 0 = .ok (.aload_n 0, 1) := by decide +kernel
theorem dX5_isSign_1 : decode cX5_isSign 1 = .ok (.getfield 21, 3) := by decide +kernel
theorem dX5_isSign_4 : decode cX5_isSign 4 = .ok (.iconst 3, 1) := by decide +kernel
theorem dX5_isSign_5 : decode cX5_isSign 5 = .ok (.if_icmp .ne 31, 3) := by decide +kernel
theorem dX5_isSign_8 : decode cX5_isSign 8 = .ok (.aload_n 0, 1) := by decide +kernel
theorem dX5_isSign_9 : decode cX5_isSign 9 = .ok (.getfield 24, 3) := by decide +kernel
theorem dX5_isSign_12 : decode cX5_isSign 12 = .ok (.aload_n 0, 1) := by decide +kernel
theorem dX5_isSign_13 : decode cX5_isSign 13 = .ok (.getfield 43, 3) := by decide +kernel
theorem dX5_isSign_16 : decode cX5_isSign 16 = .ok (.if_icmp .ge 20, 3) := by decide +kernel
theorem dX5_isSign_19 : decode cX5_isSign 19 = .ok (.aload_n 0, 1) := by decide +kernel
theorem dX5_isSign_20 : decode cX5_isSign 20 = .ok (.getfield 33, 3) := by decide +kernel
theorem dX5_isSign_23 : decode cX5_isSign 23 = .ok (.aload_n 0, 1) := by decide +kernel
theorem dX5_isSign_24 : decode cX5_isSign 24 = .ok (.getfield 24, 3) := by decide +kernel
theorem dX5_isSign_27 : decode cX5_isSign 27 = .ok (.baload, 1) := by decide +kernel
theorem dX5_isSign_28 : decode cX5_isSign 28 = .ok (.iload_n 1, 1) := by decide +kernel
theorem dX5_isSign_29 : decode cX5_isSign 29 = .ok (.if_icmp .ne 7, 3) := by decide +kernel
theorem dX5_isSign_32 : decode cX5_isSign 32 = .ok (.iconst 1, 1) := by decide +kernel
theorem dX5_isSign_33 : decode cX5_isSign 33 = .ok (.goto 4, 3) := by decide +kernel
theorem dX5_isSign_36 : decode cX5_isSign 36 = .ok (.iconst 0, 1) := by decide +kernel
theorem dX5_isSign_37 : decode cX5_isSign 37 = .ok (.ireturn, 1) := by decide +kernel
theorem dX5_passSign_0 : decode cX5_passSign 0 = .ok (.aload_n 0, 1) := by decide +kernel
theorem dX5_passSign_1 : decode cX5_passSign 1 = .ok (.iload_n 1, 1) := by decide +kernel
theorem dX5_passSign_2 : decode cX5_passSign 2 = .ok (.invokevirtual 74, 3) := by decide +kernel
theorem dX5_passSign_5 : decode cX5_passSign 5 = .ok (.ifCond .ne 9, 3) := by decide +kernel
theorem dX5_passSign_8 : decode cX5_passSign 8 = .ok (.aload_n 0, 1) := by decide +kernel
theorem dX5_passSign_9 : decode cX5_passSign 9 = .ok (.iconst 1, 1) := by decide +kernel
theorem dX5_passSign_10 : decode cX5_passSign 10 = .ok (.invokevirtual 78, 3) := by decide +kernel
theorem dX5_passSign_13 : decode cX5_passSign 13 = .ok (.ireturn, 1) := by decide +kernel
theorem dX5_passSign_14 : decode cX5_passSign 14 = .ok (.aload_n 0, 1) := by decide +kernel
theorem dX5_passSign_15 : decode cX5_passSign 15 = .ok (.invokevirtual 54, 3) := by decide +kernel
theorem dX5_passSign_18 : decode cX5_passSign 18 = .ok (.iconst 1, 1) := by decide +kernel
theorem dX5_passSign_19 : decode cX5_passSign 19 = .ok (.ireturn, 1) := by decide +kernel
theorem dX5_readLine_0 : decode cX5_readLine 0 = .ok (.aload_n 0, 1) := by decide +kernel
theorem dX5_readLine_1 : decode cX5_readLine 1 = .ok (.getstatic 82, 3) := by decide +kernel
theorem dX5_readLine_4 : decode cX5_readLine 4 = .ok (.invokevirtual 86, 3) := by decide +kernel
theorem dX5_readLine_7 : decode cX5_readLine 7 = .ok (.ifCond .eq 8, 3) := by decide +kernel
theorem dX5_readLine_10 : decode cX5_readLine 10 = .ok (.aload_n 0, 1) := by decide +kernel
theorem dX5_readLine_11 : decode cX5_readLine 11 = .ok (.invokevirtual 90, 3) := by decide +kernel
theorem dX5_readLine_14 : decode cX5_readLine 14 = .ok (.ireturn, 1) := by decide +kernel
theorem dX5_readLine_15 : decode cX5_readLine 15 = .ok (.aload_n 0, 1) := by decide +kernel
theorem dX5_readLine_16 : decode cX5_readLine 16 = .ok (.getstatic 93, 3) := by decide +kernel
theorem dX5_readLine_19 : decode cX5_readLine 19 = .ok (.invokevirtual 86, 3) := by decide +kernel
theorem dX5_readLine_22 : decode cX5_readLine 22 = .ok (.ifCond .eq 8, 3) := by decide +kernel
theorem dX5_readLine_25 : decode cX5_readLine 25 = .ok (.aload_n 0, 1) := by decide +kernel
theorem dX5_readLine_26 : decode cX5_readLine 26 = .ok (.invokevirtual 96, 3) := by decide +kernel
theorem dX5_readLine_29 : decode cX5_readLine 29 = .ok (.ireturn, 1) := by decide +kernel
theorem dX5_readLine_30 : decode cX5_readLine 30 = .ok (.aload_n 0, 1) := by decide +kernel
theorem dX5_readLine_31 : decode cX5_readLine 31 = .ok (.getstatic 99, 3) := by decide +kernel
theorem dX5_readLine_34 : decode cX5_readLine 34 = .ok (.invokevirtual 86, 3) := by decide +kernel
theorem dX5_readLine_37 : decode cX5_readLine 37 = .ok (.ifCond .eq 8, 3) := by decide +kernel
theorem dX5_readLine_40 : decode cX5_readLine 40 = .ok (.aload_n 0, 1) := by decide +kernel
theorem dX5_readLine_41 : decode cX5_readLine 41 = .ok (.invokevirtual 102, 3) := by decide +kernel
theorem dX5_readLine_44 : decode cX5_readLine 44 = .ok (.ireturn, 1) := by decide +kernel
theorem dX5_readLine_45 : decode cX5_readLine 45 = .ok (.aload_n 0, 1) := by decide +kernel
theorem dX5_readLine_46 : decode cX5_readLine 46 = .ok (.getstatic 105, 3) := by decide +kernel
theorem dX5_readLine_49 : decode cX5_readLine 49 = .ok (.invokevirtual 86, 3) := by decide +kernel
theorem dX5_readLine_52 : decode cX5_readLine 52 = .ok (.ifCond .eq 8, 3) := by decide +kernel
theorem dX5_readLine_55 : decode cX5_readLine 55 = .ok (.aload_n 0, 1) := by decide +kernel
theorem dX5_readLine_56 : decode cX5_readLine 56 = .ok (.invokevirtual 108, 3) := by decide +kernel
theorem dX5_readLine_59 : decode cX5_readLine 59 = .ok (.ireturn, 1) := by decide +kernel
theorem dX5_readLine_60 : decode cX5_readLine 60 = .ok (.aload_n 0, 1) := by decide +kernel
theorem dX5_readLine_61 : decode cX5_readLine 61 = .ok (.getstatic 111, 3) := by decide +kernel
theorem dX5_readLine_64 : decode cX5_readLine 64 = .ok (.invokevirtual 86, 3) := by decide +kernel
theorem dX5_readLine_67 : decode cX5_readLine 67 = .ok (.ifCond .eq 15, 3) := by decide +kernel
theorem dX5_readLine_70 : decode cX5_readLine 70 = .ok (.aload_n 0, 1) := by decide +kernel
theorem dX5_readLine_71 : decode cX5_readLine 71 = .ok (.aload_n 0, 1) := by decide +kernel
theorem dX5_readLine_72 : decode cX5_readLine 72 = .ok (.getfield 46, 3) := by decide +kernel
theorem dX5_readLine_75 : decode cX5_readLine 75 = .ok (.getfield 114, 3) := by decide +kernel
theorem dX5_readLine_78 : decode cX5_readLine 78 = .ok (.invokevirtual 120, 3) := by decide +kernel
theorem dX5_readLine_81 : decode cX5_readLine 81 = .ok (.ireturn, 1) := by decide +kernel
theorem dX5_readLine_82 : decode cX5_readLine 82 = .ok (.aload_n 0, 1) := by decide +kernel
theorem dX5_readLine_83 : decode cX5_readLine 83 = .ok (.getstatic 124, 3) := by decide +kernel
theorem dX5_readLine_86 : decode cX5_readLine 86 = .ok (.invokevirtual 86, 3) := by decide +kernel
theorem dX5_readLine_89 : decode cX5_readLine 89 = .ok (.ifCond .eq 15, 3) := by decide +kernel
theorem dX5_readLine_92 : decode cX5_readLine 92 = .ok (.aload_n 0, 1) := by decide +kernel
theorem dX5_readLine_93 : decode cX5_readLine 93 = .ok (.aload_n 0, 1) := by decide +kernel
theorem dX5_readLine_94 : decode cX5_readLine 94 = .ok (.getfield 46, 3) := by decide +kernel
theorem dX5_readLine_97 : decode cX5_readLine 97 = .ok (.getfield 127, 3) := by decide +kernel
theorem dX5_readLine_100 : decode cX5_readLine 100 = .ok (.invokevirtual 120, 3) := by decide +kernel
theorem dX5_readLine_103 : decode cX5_readLine 103 = .ok (.ireturn, 1) := by decide +kernel
theorem dX5_readLine_104 : decode cX5_readLine 104 = .ok (.aload_n 0, 1) := by decide +kernel
theorem dX5_readLine_105 : decode cX5_readLine 105 = .ok (.iconst 1, 1) := by decide +kernel
theorem dX5_readLine_106 : decode cX5_readLine 106 = .ok (.invokevirtual 78, 3) := by decide +kernel
theorem dX5_readLine_109 : decode cX5_readLine 109 = .ok (.ireturn, 1) := by decide +kernel
theorem dX5_readStretch_0 : decode cX5_readStretch 0 = .ok (.aload_n 0, 1) := by decide +kernel
theorem dX5_readStretch_1 : decode cX5_readStretch 1 = .ok (.getfield 46, 3) := by decide +kernel
theorem dX5_readStretch_4 : decode cX5_readStretch 4 = .ok (.getfield 130, 3) := by decide +kernel
theorem dX5_readStretch_7 : decode cX5_readStretch 7 = .ok (.bipush 12, 2) := by decide +kernel
theorem dX5_readStretch_9 : decode cX5_readStretch 9 = .ok (.if_icmp .lt 9, 3) := by decide +kernel
theorem dX5_readStretch_12 : decode cX5_readStretch 12 = .ok (.aload_n 0, 1) := by decide +kernel
theorem dX5_readStretch_13 : decode cX5_readStretch 13 = .ok (.iconst 2, 1) := by decide +kernel
theorem dX5_readStretch_14 : decode cX5_readStretch 14 = .ok (.invokevirtual 78, 3) := by decide +kernel
theorem dX5_readStretch_17 : decode cX5_readStretch 17 = .ok (.ireturn, 1) := by decide +kernel
theorem dX5_readStretch_18 : decode cX5_readStretch 18 = .ok (.aload_n 0, 1) := by decide +kernel
theorem dX5_readStretch_19 : decode cX5_readStretch 19 = .ok (.invokevirtual 54, 3) := by decide +kernel
theorem dX5_readStretch_22 : decode cX5_readStretch 22 = .ok (.aload_n 0, 1) := by decide +kernel
theorem dX5_readStretch_23 : decode cX5_readStretch 23 = .ok (.iconst 0, 1) := by decide +kernel
theorem dX5_readStretch_24 : decode cX5_readStretch 24 = .ok (.bipush 99, 2) := by decide +kernel
theorem dX5_readStretch_26 : decode cX5_readStretch 26 = .ok (.invokevirtual 133, 3) := by decide +kernel
theorem dX5_readStretch_29 : decode cX5_readStretch 29 = .ok (.ifCond .ne 5, 3) := by decide +kernel
theorem dX5_readStretch_32 : decode cX5_readStretch 32 = .ok (.iconst 0, 1) := by decide +kernel
theorem dX5_readStretch_33 : decode cX5_readStretch 33 = .ok (.ireturn, 1) := by decide +kernel
theorem dX5_readStretch_34 : decode cX5_readStretch 34 = .ok (.aload_n 0, 1) := by decide +kernel
theorem dX5_readStretch_35 : decode cX5_readStretch 35 = .ok (.getfield 27, 3) := by decide +kernel
theorem dX5_readStretch_38 : decode cX5_readStretch 38 = .ok (.istore_n 1, 1) := by decide +kernel
theorem dX5_readStretch_39 : decode cX5_readStretch 39 = .ok (.aload_n 0, 1) := by decide +kernel
theorem dX5_readStretch_40 : decode cX5_readStretch 40 = .ok (.invokevirtual 54, 3) := by decide +kernel
theorem dX5_readStretch_43 : decode cX5_readStretch 43 = .ok (.aload_n 0, 1) := by decide +kernel
theorem dX5_readStretch_44 : decode cX5_readStretch 44 = .ok (.iconst 0, 1) := by decide +kernel
theorem dX5_readStretch_45 : decode cX5_readStretch 45 = .ok (.bipush 99, 2) := by decide +kernel
theorem dX5_readStretch_47 : decode cX5_readStretch 47 = .ok (.invokevirtual 133, 3) := by decide +kernel
theorem dX5_readStretch_50 : decode cX5_readStretch 50 = .ok (.ifCond .ne 5, 3) := by decide +kernel
theorem dX5_readStretch_53 : decode cX5_readStretch 53 = .ok (.iconst 0, 1) := by decide +kernel
theorem dX5_readStretch_54 : decode cX5_readStretch 54 = .ok (.ireturn, 1) := by decide +kernel
theorem dX5_readStretch_55 : decode cX5_readStretch 55 = .ok (.aload_n 0, 1) := by decide +kernel
theorem dX5_readStretch_56 : decode cX5_readStretch 56 = .ok (.getfield 27, 3) := by decide +kernel
theorem dX5_readStretch_59 : decode cX5_readStretch 59 = .ok (.istore_n 2, 1) := by decide +kernel
theorem dX5_readStretch_60 : decode cX5_readStretch 60 = .ok (.aload_n 0, 1) := by decide +kernel
theorem dX5_readStretch_61 : decode cX5_readStretch 61 = .ok (.invokevirtual 54, 3) := by decide +kernel
theorem dX5_readStretch_64 : decode cX5_readStretch 64 = .ok (.aload_n 0, 1) := by decide +kernel
theorem dX5_readStretch_65 : decode cX5_readStretch 65 = .ok (.iconst 0, 1) := by decide +kernel
theorem dX5_readStretch_66 : decode cX5_readStretch 66 = .ok (.iconst 2, 1) := by decide +kernel
theorem dX5_readStretch_67 : decode cX5_readStretch 67 = .ok (.invokevirtual 133, 3) := by decide +kernel
theorem dX5_readStretch_70 : decode cX5_readStretch 70 = .ok (.ifCond .ne 5, 3) := by decide +kernel
theorem dX5_readStretch_73 : decode cX5_readStretch 73 = .ok (.iconst 0, 1) := by decide +kernel
theorem dX5_readStretch_74 : decode cX5_readStretch 74 = .ok (.ireturn, 1) := by decide +kernel
theorem dX5_readStretch_75 : decode cX5_readStretch 75 = .ok (.aload_n 0, 1) := by decide +kernel
theorem dX5_readStretch_76 : decode cX5_readStretch 76 = .ok (.getfield 50, 3) := by decide +kernel
theorem dX5_readStretch_79 : decode cX5_readStretch 79 = .ok (.aload_n 0, 1) := by decide +kernel
theorem dX5_readStretch_80 : decode cX5_readStretch 80 = .ok (.getfield 46, 3) := by decide +kernel
theorem dX5_readStretch_83 : decode cX5_readStretch 83 = .ok (.getfield 130, 3) := by decide +kernel
theorem dX5_readStretch_86 : decode cX5_readStretch 86 = .ok (.iload_n 1, 1) := by decide +kernel
theorem dX5_readStretch_87 : decode cX5_readStretch 87 = .ok (.iload_n 2, 1) := by decide +kernel
theorem dX5_readStretch_88 : decode cX5_readStretch 88 = .ok (.aload_n 0, 1) := by decide +kernel
theorem dX5_readStretch_89 : decode cX5_readStretch 89 = .ok (.getfield 27, 3) := by decide +kernel
theorem dX5_readStretch_92 : decode cX5_readStretch 92 = .ok (.invokevirtual 137, 3) := by decide +kernel
theorem dX5_readStretch_95 : decode cX5_readStretch 95 = .ok (.aload_n 0, 1) := by decide +kernel
theorem dX5_readStretch_96 : decode cX5_readStretch 96 = .ok (.getfield 46, 3) := by decide +kernel
theorem dX5_readStretch_99 : decode cX5_readStretch 99 = .ok (.dup, 1) := by decide +kernel
theorem dX5_readStretch_100 : decode cX5_readStretch 100 = .ok (.getfield 130, 3) := by decide +kernel
theorem dX5_readStretch_103 : decode cX5_readStretch 103 = .ok (.iconst 1, 1) := by decide +kernel
theorem dX5_readStretch_104 : decode cX5_readStretch 104 = .ok (.iadd, 1) := by decide +kernel
theorem dX5_readStretch_105 : decode cX5_readStretch 105 = .ok (.putfield 130, 3) := by decide +kernel
theorem dX5_readStretch_108 : decode cX5_readStretch 108 = .ok (.aload_n 0, 1) := by decide +kernel
theorem dX5_readStretch_109 : decode cX5_readStretch 109 = .ok (.invokevirtual 54, 3) := by decide +kernel
theorem dX5_readStretch_112 : decode cX5_readStretch 112 = .ok (.aload_n 0, 1) := by decide +kernel
theorem dX5_readStretch_113 : decode cX5_readStretch 113 = .ok (.bipush 59, 2) := by decide +kernel
theorem dX5_readStretch_115 : decode cX5_readStretch 115 = .ok (.invokevirtual 143, 3) := by decide +kernel
theorem dX5_readStretch_118 : decode cX5_readStretch 118 = .ok (.ireturn, 1) := by decide +kernel
theorem dX5_readWoman_0 : decode cX5_readWoman 0 = .ok (.aload_n 0, 1) := by decide +kernel
theorem dX5_readWoman_1 : decode cX5_readWoman 1 = .ok (.getfield 46, 3) := by decide +kernel
theorem dX5_readWoman_4 : decode cX5_readWoman 4 = .ok (.getfield 146, 3) := by decide +kernel
theorem dX5_readWoman_7 : decode cX5_readWoman 7 = .ok (.bipush 6, 2) := by decide +kernel
theorem dX5_readWoman_9 : decode cX5_readWoman 9 = .ok (.if_icmp .lt 9, 3) := by decide +kernel
theorem dX5_readWoman_12 : decode cX5_readWoman 12 = .ok (.aload_n 0, 1) := by decide +kernel
theorem dX5_readWoman_13 : decode cX5_readWoman 13 = .ok (.iconst 2, 1) := by decide +kernel
theorem dX5_readWoman_14 : decode cX5_readWoman 14 = .ok (.invokevirtual 78, 3) := by decide +kernel
theorem dX5_readWoman_17 : decode cX5_readWoman 17 = .ok (.ireturn, 1) := by decide +kernel
theorem dX5_readWoman_18 : decode cX5_readWoman 18 = .ok (.aload_n 0, 1) := by decide +kernel
theorem dX5_readWoman_19 : decode cX5_readWoman 19 = .ok (.invokevirtual 54, 3) := by decide +kernel
theorem dX5_readWoman_22 : decode cX5_readWoman 22 = .ok (.aload_n 0, 1) := by decide +kernel
theorem dX5_readWoman_23 : decode cX5_readWoman 23 = .ok (.iconst 0, 1) := by decide +kernel
theorem dX5_readWoman_24 : decode cX5_readWoman 24 = .ok (.bipush 9, 2) := by decide +kernel
theorem dX5_readWoman_26 : decode cX5_readWoman 26 = .ok (.invokevirtual 133, 3) := by decide +kernel
theorem dX5_readWoman_29 : decode cX5_readWoman 29 = .ok (.ifCond .ne 5, 3) := by decide +kernel
theorem dX5_readWoman_32 : decode cX5_readWoman 32 = .ok (.iconst 0, 1) := by decide +kernel
theorem dX5_readWoman_33 : decode cX5_readWoman 33 = .ok (.ireturn, 1) := by decide +kernel
theorem dX5_readWoman_34 : decode cX5_readWoman 34 = .ok (.aload_n 0, 1) := by decide +kernel
theorem dX5_readWoman_35 : decode cX5_readWoman 35 = .ok (.getfield 27, 3) := by decide +kernel
theorem dX5_readWoman_38 : decode cX5_readWoman 38 = .ok (.istore_n 1, 1) := by decide +kernel
theorem dX5_readWoman_39 : decode cX5_readWoman 39 = .ok (.aload_n 0, 1) := by decide +kernel
theorem dX5_readWoman_40 : decode cX5_readWoman 40 = .ok (.invokevirtual 54, 3) := by decide +kernel
theorem dX5_readWoman_43 : decode cX5_readWoman 43 = .ok (.aload_n 0, 1) := by decide +kernel
theorem dX5_readWoman_44 : decode cX5_readWoman 44 = .ok (.invokevirtual 149, 3) := by decide +kernel
theorem dX5_readWoman_47 : decode cX5_readWoman 47 = .ok (.ifCond .ne 5, 3) := by decide +kernel
theorem dX5_readWoman_50 : decode cX5_readWoman 50 = .ok (.iconst 0, 1) := by decide +kernel
theorem dX5_readWoman_51 : decode cX5_readWoman 51 = .ok (.ireturn, 1) := by decide +kernel
theorem dX5_readWoman_52 : decode cX5_readWoman 52 = .ok (.aload_n 0, 1) := by decide +kernel
theorem dX5_readWoman_53 : decode cX5_readWoman 53 = .ok (.getfield 27, 3) := by decide +kernel
theorem dX5_readWoman_56 : decode cX5_readWoman 56 = .ok (.istore_n 2, 1) := by decide +kernel
theorem dX5_readWoman_57 : decode cX5_readWoman 57 = .ok (.aload_n 0, 1) := by decide +kernel
theorem dX5_readWoman_58 : decode cX5_readWoman 58 = .ok (.invokevirtual 54, 3) := by decide +kernel
theorem dX5_readWoman_61 : decode cX5_readWoman 61 = .ok (.aload_n 0, 1) := by decide +kernel
theorem dX5_readWoman_62 : decode cX5_readWoman 62 = .ok (.iconst 0, 1) := by decide +kernel
theorem dX5_readWoman_63 : decode cX5_readWoman 63 = .ok (.bipush 99, 2) := by decide +kernel
theorem dX5_readWoman_65 : decode cX5_readWoman 65 = .ok (.invokevirtual 133, 3) := by decide +kernel
theorem dX5_readWoman_68 : decode cX5_readWoman 68 = .ok (.ifCond .ne 5, 3) := by decide +kernel
theorem dX5_readWoman_71 : decode cX5_readWoman 71 = .ok (.iconst 0, 1) := by decide +kernel
theorem dX5_readWoman_72 : decode cX5_readWoman 72 = .ok (.ireturn, 1) := by decide +kernel
theorem dX5_readWoman_73 : decode cX5_readWoman 73 = .ok (.aload_n 0, 1) := by decide +kernel
theorem dX5_readWoman_74 : decode cX5_readWoman 74 = .ok (.getfield 46, 3) := by decide +kernel
theorem dX5_readWoman_77 : decode cX5_readWoman 77 = .ok (.getfield 152, 3) := by decide +kernel
theorem dX5_readWoman_80 : decode cX5_readWoman 80 = .ok (.aload_n 0, 1) := by decide +kernel
theorem dX5_readWoman_81 : decode cX5_readWoman 81 = .ok (.getfield 46, 3) := by decide +kernel
theorem dX5_readWoman_84 : decode cX5_readWoman 84 = .ok (.getfield 146, 3) := by decide +kernel
theorem dX5_readWoman_87 : decode cX5_readWoman 87 = .ok (.iload_n 1, 1) := by decide +kernel
theorem dX5_readWoman_88 : decode cX5_readWoman 88 = .ok (.iastore, 1) := by decide +kernel
theorem dX5_readWoman_89 : decode cX5_readWoman 89 = .ok (.aload_n 0, 1) := by decide +kernel
theorem dX5_readWoman_90 : decode cX5_readWoman 90 = .ok (.getfield 50, 3) := by decide +kernel
theorem dX5_readWoman_93 : decode cX5_readWoman 93 = .ok (.aload_n 0, 1) := by decide +kernel
theorem dX5_readWoman_94 : decode cX5_readWoman 94 = .ok (.getfield 46, 3) := by decide +kernel
theorem dX5_readWoman_97 : decode cX5_readWoman 97 = .ok (.getfield 146, 3) := by decide +kernel
theorem dX5_readWoman_100 : decode cX5_readWoman 100 = .ok (.iload_n 2, 1) := by decide +kernel
theorem dX5_readWoman_101 : decode cX5_readWoman 101 = .ok (.aload_n 0, 1) := by decide +kernel
theorem dX5_readWoman_102 : decode cX5_readWoman 102 = .ok (.getfield 27, 3) := by decide +kernel
theorem dX5_readWoman_105 : decode cX5_readWoman 105 = .ok (.invokevirtual 156, 3) := by decide +kernel
theorem dX5_readWoman_108 : decode cX5_readWoman 108 = .ok (.aload_n 0, 1) := by decide +kernel
theorem dX5_readWoman_109 : decode cX5_readWoman 109 = .ok (.getfield 46, 3) := by decide +kernel
theorem dX5_readWoman_112 : decode cX5_readWoman 112 = .ok (.dup, 1) := by decide +kernel
theorem dX5_readWoman_113 : decode cX5_readWoman 113 = .ok (.getfield 146, 3) := by decide +kernel
theorem dX5_readWoman_116 : decode cX5_readWoman 116 = .ok (.iconst 1, 1) := by decide +kernel
theorem dX5_readWoman_117 : decode cX5_readWoman 117 = .ok (.iadd, 1) := by decide +kernel
theorem dX5_readWoman_118 : decode cX5_readWoman 118 = .ok (.putfield 146, 3) := by decide +kernel
theorem dX5_readWoman_121 : decode cX5_readWoman 121 = .ok (.aload_n 0, 1) := by decide +kernel
theorem dX5_readWoman_122 : decode cX5_readWoman 122 = .ok (.invokevirtual 54, 3) := by decide +kernel
theorem dX5_readWoman_125 : decode cX5_readWoman 125 = .ok (.aload_n 0, 1) := by decide +kernel
theorem dX5_readWoman_126 : decode cX5_readWoman 126 = .ok (.bipush 59, 2) := by decide +kernel
theorem dX5_readWoman_128 : decode cX5_readWoman 128 = .ok (.invokevirtual 143, 3) := by decide +kernel
theorem dX5_readWoman_131 : decode cX5_readWoman 131 = .ok (.ireturn, 1) := by decide +kernel
theorem dX5_readKnots_0 : decode cX5_readKnots 0 = .ok (.aload_n 0, 1) := by decide +kernel
theorem dX5_readKnots_1 : decode cX5_readKnots 1 = .ok (.getfield 46, 3) := by decide +kernel
theorem dX5_readKnots_4 : decode cX5_readKnots 4 = .ok (.getfield 160, 3) := by decide +kernel
theorem dX5_readKnots_7 : decode cX5_readKnots 7 = .ok (.ifCond .eq 9, 3) := by decide +kernel
theorem dX5_readKnots_10 : decode cX5_readKnots 10 = .ok (.aload_n 0, 1) := by decide +kernel
theorem dX5_readKnots_11 : decode cX5_readKnots 11 = .ok (.iconst 5, 1) := by decide +kernel
theorem dX5_readKnots_12 : decode cX5_readKnots 12 = .ok (.invokevirtual 78, 3) := by decide +kernel
theorem dX5_readKnots_15 : decode cX5_readKnots 15 = .ok (.ireturn, 1) := by decide +kernel
theorem dX5_readKnots_16 : decode cX5_readKnots 16 = .ok (.aload_n 0, 1) := by decide +kernel
theorem dX5_readKnots_17 : decode cX5_readKnots 17 = .ok (.getfield 46, 3) := by decide +kernel
theorem dX5_readKnots_20 : decode cX5_readKnots 20 = .ok (.iconst 1, 1) := by decide +kernel
theorem dX5_readKnots_21 : decode cX5_readKnots 21 = .ok (.putfield 160, 3) := by decide +kernel
theorem dX5_readKnots_24 : decode cX5_readKnots 24 = .ok (.aload_n 0, 1) := by decide +kernel
theorem dX5_readKnots_25 : decode cX5_readKnots 25 = .ok (.invokevirtual 54, 3) := by decide +kernel
theorem dX5_readKnots_28 : decode cX5_readKnots 28 = .ok (.aload_n 0, 1) := by decide +kernel
theorem dX5_readKnots_29 : decode cX5_readKnots 29 = .ok (.getfield 21, 3) := by decide +kernel
theorem dX5_readKnots_32 : decode cX5_readKnots 32 = .ok (.iconst 2, 1) := by decide +kernel
theorem dX5_readKnots_33 : decode cX5_readKnots 33 = .ok (.if_icmp .eq 9, 3) := by decide +kernel
theorem dX5_readKnots_36 : decode cX5_readKnots 36 = .ok (.aload_n 0, 1) := by decide +kernel
theorem dX5_readKnots_37 : decode cX5_readKnots 37 = .ok (.iconst 1, 1) := by decide +kernel
theorem dX5_readKnots_38 : decode cX5_readKnots 38 = .ok (.invokevirtual 78, 3) := by decide +kernel
theorem dX5_readKnots_41 : decode cX5_readKnots 41 = .ok (.ireturn, 1) := by decide +kernel
theorem dX5_readKnots_42 : decode cX5_readKnots 42 = .ok (.iconst 0, 1) := by decide +kernel
theorem dX5_readKnots_43 : decode cX5_readKnots 43 = .ok (.istore_n 1, 1) := by decide +kernel
theorem dX5_readKnots_44 : decode cX5_readKnots 44 = .ok (.iload_n 1, 1) := by decide +kernel
theorem dX5_readKnots_45 : decode cX5_readKnots 45 = .ok (.bipush 8, 2) := by decide +kernel
theorem dX5_readKnots_47 : decode cX5_readKnots 47 = .ok (.if_icmp .gt 95, 3) := by decide +kernel
theorem dX5_readKnots_50 : decode cX5_readKnots 50 = .ok (.aload_n 0, 1) := by decide +kernel
theorem dX5_readKnots_51 : decode cX5_readKnots 51 = .ok (.getfield 21, 3) := by decide +kernel
theorem dX5_readKnots_54 : decode cX5_readKnots 54 = .ok (.iconst 2, 1) := by decide +kernel
theorem dX5_readKnots_55 : decode cX5_readKnots 55 = .ok (.if_icmp .ne 87, 3) := by decide +kernel
theorem dX5_readKnots_58 : decode cX5_readKnots 58 = .ok (.aload_n 0, 1) := by decide +kernel
theorem dX5_readKnots_59 : decode cX5_readKnots 59 = .ok (.getfield 30, 3) := by decide +kernel
theorem dX5_readKnots_62 : decode cX5_readKnots 62 = .ok (.iconst 4, 1) := by decide +kernel
theorem dX5_readKnots_63 : decode cX5_readKnots 63 = .ok (.if_icmp .gt 18, 3) := by decide +kernel
theorem dX5_readKnots_66 : decode cX5_readKnots 66 = .ok (.aload_n 0, 1) := by decide +kernel
theorem dX5_readKnots_67 : decode cX5_readKnots 67 = .ok (.getfield 46, 3) := by decide +kernel
theorem dX5_readKnots_70 : decode cX5_readKnots 70 = .ok (.getfield 164, 3) := by decide +kernel
theorem dX5_readKnots_73 : decode cX5_readKnots 73 = .ok (.getfield 168, 3) := by decide +kernel
theorem dX5_readKnots_76 : decode cX5_readKnots 76 = .ok (.bipush 8, 2) := by decide +kernel
theorem dX5_readKnots_78 : decode cX5_readKnots 78 = .ok (.if_icmp .lt 9, 3) := by decide +kernel
theorem dX5_readKnots_81 : decode cX5_readKnots 81 = .ok (.aload_n 0, 1) := by decide +kernel
theorem dX5_readKnots_82 : decode cX5_readKnots 82 = .ok (.iconst 2, 1) := by decide +kernel
theorem dX5_readKnots_83 : decode cX5_readKnots 83 = .ok (.invokevirtual 78, 3) := by decide +kernel
theorem dX5_readKnots_86 : decode cX5_readKnots 86 = .ok (.ireturn, 1) := by decide +kernel
theorem dX5_readKnots_87 : decode cX5_readKnots 87 = .ok (.aload_n 0, 1) := by decide +kernel
theorem dX5_readKnots_88 : decode cX5_readKnots 88 = .ok (.getfield 46, 3) := by decide +kernel
theorem dX5_readKnots_91 : decode cX5_readKnots 91 = .ok (.getfield 164, 3) := by decide +kernel
theorem dX5_readKnots_94 : decode cX5_readKnots 94 = .ok (.aload_n 0, 1) := by decide +kernel
theorem dX5_readKnots_95 : decode cX5_readKnots 95 = .ok (.getfield 27, 3) := by decide +kernel
theorem dX5_readKnots_98 : decode cX5_readKnots 98 = .ok (.aload_n 0, 1) := by decide +kernel
theorem dX5_readKnots_99 : decode cX5_readKnots 99 = .ok (.getfield 30, 3) := by decide +kernel
theorem dX5_readKnots_102 : decode cX5_readKnots 102 = .ok (.invokevirtual 173, 3) := by decide +kernel
theorem dX5_readKnots_105 : decode cX5_readKnots 105 = .ok (.ifCond .eq 9, 3) := by decide +kernel
theorem dX5_readKnots_108 : decode cX5_readKnots 108 = .ok (.aload_n 0, 1) := by decide +kernel
theorem dX5_readKnots_109 : decode cX5_readKnots 109 = .ok (.iconst 4, 1) := by decide +kernel
theorem dX5_readKnots_110 : decode cX5_readKnots 110 = .ok (.invokevirtual 78, 3) := by decide +kernel
theorem dX5_readKnots_113 : decode cX5_readKnots 113 = .ok (.ireturn, 1) := by decide +kernel
theorem dX5_readKnots_114 : decode cX5_readKnots 114 = .ok (.aload_n 0, 1) := by decide +kernel
theorem dX5_readKnots_115 : decode cX5_readKnots 115 = .ok (.getfield 46, 3) := by decide +kernel
theorem dX5_readKnots_118 : decode cX5_readKnots 118 = .ok (.getfield 164, 3) := by decide +kernel
theorem dX5_readKnots_121 : decode cX5_readKnots 121 = .ok (.aload_n 0, 1) := by decide +kernel
theorem dX5_readKnots_122 : decode cX5_readKnots 122 = .ok (.getfield 27, 3) := by decide +kernel
theorem dX5_readKnots_125 : decode cX5_readKnots 125 = .ok (.aload_n 0, 1) := by decide +kernel
theorem dX5_readKnots_126 : decode cX5_readKnots 126 = .ok (.getfield 30, 3) := by decide +kernel
theorem dX5_readKnots_129 : decode cX5_readKnots 129 = .ok (.invokevirtual 176, 3) := by decide +kernel
theorem dX5_readKnots_132 : decode cX5_readKnots 132 = .ok (.aload_n 0, 1) := by decide +kernel
theorem dX5_readKnots_133 : decode cX5_readKnots 133 = .ok (.invokevirtual 54, 3) := by decide +kernel
theorem dX5_readKnots_136 : decode cX5_readKnots 136 = .ok (.iinc 1 1, 3) := by decide +kernel
theorem dX5_readKnots_139 : decode cX5_readKnots 139 = .ok (.goto (-95), 3) := by decide +kernel
theorem dX5_readKnots_142 : decode cX5_readKnots 142 = .ok (.aload_n 0, 1) := by decide +kernel
theorem dX5_readKnots_143 : decode cX5_readKnots 143 = .ok (.bipush 59, 2) := by decide +kernel
theorem dX5_readKnots_145 : decode cX5_readKnots 145 = .ok (.invokevirtual 143, 3) := by decide +kernel
theorem dX5_readKnots_148 : decode cX5_readKnots 148 = .ok (.ireturn, 1) := by decide +kernel
theorem dX5_readWeek_0 : decode cX5_readWeek 0 = .ok (.aload_n 0, 1) := by decide +kernel
theorem dX5_readWeek_1 : decode cX5_readWeek 1 = .ok (.getfield 46, 3) := by decide +kernel
theorem dX5_readWeek_4 : decode cX5_readWeek 4 = .ok (.getfield 180, 3) := by decide +kernel
theorem dX5_readWeek_7 : decode cX5_readWeek 7 = .ok (.ifCond .eq 9, 3) := by decide +kernel
theorem dX5_readWeek_10 : decode cX5_readWeek 10 = .ok (.aload_n 0, 1) := by decide +kernel
theorem dX5_readWeek_11 : decode cX5_readWeek 11 = .ok (.iconst 5, 1) := by decide +kernel
theorem dX5_readWeek_12 : decode cX5_readWeek 12 = .ok (.invokevirtual 78, 3) := by decide +kernel
theorem dX5_readWeek_15 : decode cX5_readWeek 15 = .ok (.ireturn, 1) := by decide +kernel
theorem dX5_readWeek_16 : decode cX5_readWeek 16 = .ok (.aload_n 0, 1) := by decide +kernel
theorem dX5_readWeek_17 : decode cX5_readWeek 17 = .ok (.getfield 46, 3) := by decide +kernel
theorem dX5_readWeek_20 : decode cX5_readWeek 20 = .ok (.iconst 1, 1) := by decide +kernel
theorem dX5_readWeek_21 : decode cX5_readWeek 21 = .ok (.putfield 180, 3) := by decide +kernel
theorem dX5_readWeek_24 : decode cX5_readWeek 24 = .ok (.aload_n 0, 1) := by decide +kernel
theorem dX5_readWeek_25 : decode cX5_readWeek 25 = .ok (.invokevirtual 54, 3) := by decide +kernel
theorem dX5_readWeek_28 : decode cX5_readWeek 28 = .ok (.aload_n 0, 1) := by decide +kernel
theorem dX5_readWeek_29 : decode cX5_readWeek 29 = .ok (.iconst 1, 1) := by decide +kernel
theorem dX5_readWeek_30 : decode cX5_readWeek 30 = .ok (.bipush 9, 2) := by decide +kernel
theorem dX5_readWeek_32 : decode cX5_readWeek 32 = .ok (.invokevirtual 133, 3) := by decide +kernel
theorem dX5_readWeek_35 : decode cX5_readWeek 35 = .ok (.ifCond .ne 5, 3) := by decide +kernel
theorem dX5_readWeek_38 : decode cX5_readWeek 38 = .ok (.iconst 0, 1) := by decide +kernel
theorem dX5_readWeek_39 : decode cX5_readWeek 39 = .ok (.ireturn, 1) := by decide +kernel
theorem dX5_readWeek_40 : decode cX5_readWeek 40 = .ok (.aload_n 0, 1) := by decide +kernel
theorem dX5_readWeek_41 : decode cX5_readWeek 41 = .ok (.getfield 46, 3) := by decide +kernel
theorem dX5_readWeek_44 : decode cX5_readWeek 44 = .ok (.aload_n 0, 1) := by decide +kernel
theorem dX5_readWeek_45 : decode cX5_readWeek 45 = .ok (.getfield 27, 3) := by decide +kernel
theorem dX5_readWeek_48 : decode cX5_readWeek 48 = .ok (.putfield 183, 3) := by decide +kernel
theorem dX5_readWeek_51 : decode cX5_readWeek 51 = .ok (.aload_n 0, 1) := by decide +kernel
theorem dX5_readWeek_52 : decode cX5_readWeek 52 = .ok (.invokevirtual 54, 3) := by decide +kernel
theorem dX5_readWeek_55 : decode cX5_readWeek 55 = .ok (.aload_n 0, 1) := by decide +kernel
theorem dX5_readWeek_56 : decode cX5_readWeek 56 = .ok (.bipush 59, 2) := by decide +kernel
theorem dX5_readWeek_58 : decode cX5_readWeek 58 = .ok (.invokevirtual 143, 3) := by decide +kernel
theorem dX5_readWeek_61 : decode cX5_readWeek 61 = .ok (.ireturn, 1) := by decide +kernel
theorem dX5_readRule_0 : decode cX5_readRule 0 = .ok (.aload_n 1, 1) := by decide +kernel
theorem dX5_readRule_1 : decode cX5_readRule 1 = .ok (.getfield 186, 3) := by decide +kernel
theorem dX5_readRule_4 : decode cX5_readRule 4 = .ok (.ifCond .eq 9, 3) := by decide +kernel
theorem dX5_readRule_7 : decode cX5_readRule 7 = .ok (.aload_n 0, 1) := by decide +kernel
theorem dX5_readRule_8 : decode cX5_readRule 8 = .ok (.iconst 5, 1) := by decide +kernel
theorem dX5_readRule_9 : decode cX5_readRule 9 = .ok (.invokevirtual 78, 3) := by decide +kernel
theorem dX5_readRule_12 : decode cX5_readRule 12 = .ok (.ireturn, 1) := by decide +kernel
theorem dX5_readRule_13 : decode cX5_readRule 13 = .ok (.aload_n 0, 1) := by decide +kernel
theorem dX5_readRule_14 : decode cX5_readRule 14 = .ok (.getfield 46, 3) := by decide +kernel
theorem dX5_readRule_17 : decode cX5_readRule 17 = .ok (.aload_n 1, 1) := by decide +kernel
theorem dX5_readRule_18 : decode cX5_readRule 18 = .ok (.invokevirtual 191, 3) := by decide +kernel
theorem dX5_readRule_21 : decode cX5_readRule 21 = .ok (.aload_n 0, 1) := by decide +kernel
theorem dX5_readRule_22 : decode cX5_readRule 22 = .ok (.invokevirtual 54, 3) := by decide +kernel
theorem dX5_readRule_25 : decode cX5_readRule 25 = .ok (.aload_n 0, 1) := by decide +kernel
theorem dX5_readRule_26 : decode cX5_readRule 26 = .ok (.iconst 0, 1) := by decide +kernel
theorem dX5_readRule_27 : decode cX5_readRule 27 = .ok (.invokevirtual 195, 3) := by decide +kernel
theorem dX5_readRule_30 : decode cX5_readRule 30 = .ok (.ifCond .ne 5, 3) := by decide +kernel
theorem dX5_readRule_33 : decode cX5_readRule 33 = .ok (.iconst 0, 1) := by decide +kernel
theorem dX5_readRule_34 : decode cX5_readRule 34 = .ok (.ireturn, 1) := by decide +kernel
theorem dX5_readRule_35 : decode cX5_readRule 35 = .ok (.aload_n 0, 1) := by decide +kernel
theorem dX5_readRule_36 : decode cX5_readRule 36 = .ok (.getfield 46, 3) := by decide +kernel
theorem dX5_readRule_39 : decode cX5_readRule 39 = .ok (.aload_n 1, 1) := by decide +kernel
theorem dX5_readRule_40 : decode cX5_readRule 40 = .ok (.invokevirtual 198, 3) := by decide +kernel
theorem dX5_readRule_43 : decode cX5_readRule 43 = .ok (.aload_n 0, 1) := by decide +kernel
theorem dX5_readRule_44 : decode cX5_readRule 44 = .ok (.bipush 59, 2) := by decide +kernel
theorem dX5_readRule_46 : decode cX5_readRule 46 = .ok (.invokevirtual 143, 3) := by decide +kernel
theorem dX5_readRule_49 : decode cX5_readRule 49 = .ok (.ireturn, 1) := by decide +kernel
theorem dX5_isNumber_0 : decode cX5_isNumber 0 = .ok (.aload_n 0, 1) := by decide +kernel
theorem dX5_isNumber_1 : decode cX5_isNumber 1 = .ok (.getfield 21, 3) := by decide +kernel
theorem dX5_isNumber_4 : decode cX5_isNumber 4 = .ok (.iconst 2, 1) := by decide +kernel
theorem dX5_isNumber_5 : decode cX5_isNumber 5 = .ok (.if_icmp .eq 9, 3) := by decide +kernel
theorem dX5_isNumber_8 : decode cX5_isNumber 8 = .ok (.aload_n 0, 1) := by decide +kernel
theorem dX5_isNumber_9 : decode cX5_isNumber 9 = .ok (.iconst 1, 1) := by decide +kernel
theorem dX5_isNumber_10 : decode cX5_isNumber 10 = .ok (.invokevirtual 78, 3) := by decide +kernel
theorem dX5_isNumber_13 : decode cX5_isNumber 13 = .ok (.ireturn, 1) := by decide +kernel
theorem dX5_isNumber_14 : decode cX5_isNumber 14 = .ok (.aload_n 0, 1) := by decide +kernel
theorem dX5_isNumber_15 : decode cX5_isNumber 15 = .ok (.getfield 30, 3) := by decide +kernel
theorem dX5_isNumber_18 : decode cX5_isNumber 18 = .ok (.iconst 4, 1) := by decide +kernel
theorem dX5_isNumber_19 : decode cX5_isNumber 19 = .ok (.if_icmp .gt 19, 3) := by decide +kernel
theorem dX5_isNumber_22 : decode cX5_isNumber 22 = .ok (.aload_n 0, 1) := by decide +kernel
theorem dX5_isNumber_23 : decode cX5_isNumber 23 = .ok (.getfield 27, 3) := by decide +kernel
theorem dX5_isNumber_26 : decode cX5_isNumber 26 = .ok (.iload_n 1, 1) := by decide +kernel
theorem dX5_isNumber_27 : decode cX5_isNumber 27 = .ok (.if_icmp .lt 11, 3) := by decide +kernel
theorem dX5_isNumber_30 : decode cX5_isNumber 30 = .ok (.aload_n 0, 1) := by decide +kernel
theorem dX5_isNumber_31 : decode cX5_isNumber 31 = .ok (.getfield 27, 3) := by decide +kernel
theorem dX5_isNumber_34 : decode cX5_isNumber 34 = .ok (.iload_n 2, 1) := by decide +kernel
theorem dX5_isNumber_35 : decode cX5_isNumber 35 = .ok (.if_icmp .le 11, 3) := by decide +kernel
theorem dX5_isNumber_38 : decode cX5_isNumber 38 = .ok (.aload_n 0, 1) := by decide +kernel
theorem dX5_isNumber_39 : decode cX5_isNumber 39 = .ok (.iconst 2, 1) := by decide +kernel
theorem dX5_isNumber_40 : decode cX5_isNumber 40 = .ok (.invokevirtual 78, 3) := by decide +kernel
theorem dX5_isNumber_43 : decode cX5_isNumber 43 = .ok (.ifCond .eq 7, 3) := by decide +kernel
theorem dX5_isNumber_46 : decode cX5_isNumber 46 = .ok (.iconst 1, 1) := by decide +kernel
theorem dX5_isNumber_47 : decode cX5_isNumber 47 = .ok (.goto 4, 3) := by decide +kernel
theorem dX5_isNumber_50 : decode cX5_isNumber 50 = .ok (.iconst 0, 1) := by decide +kernel
theorem dX5_isNumber_51 : decode cX5_isNumber 51 = .ok (.ireturn, 1) := by decide +kernel
theorem dX5_isStretchTold_0 : decode cX5_isStretchTold 0 = .ok (.aload_n 0, 1) := by decide +kernel
theorem dX5_isStretchTold_1 : decode cX5_isStretchTold 1 = .ok (.iconst 0, 1) := by decide +kernel
theorem dX5_isStretchTold_2 : decode cX5_isStretchTold 2 = .ok (.sipush 9999, 3) := by decide +kernel
theorem dX5_isStretchTold_5 : decode cX5_isStretchTold 5 = .ok (.invokevirtual 133, 3) := by decide +kernel
theorem dX5_isStretchTold_8 : decode cX5_isStretchTold 8 = .ok (.ifCond .eq 29, 3) := by decide +kernel
theorem dX5_isStretchTold_11 : decode cX5_isStretchTold 11 = .ok (.aload_n 0, 1) := by decide +kernel
theorem dX5_isStretchTold_12 : decode cX5_isStretchTold 12 = .ok (.getfield 27, 3) := by decide +kernel
theorem dX5_isStretchTold_15 : decode cX5_isStretchTold 15 = .ok (.aload_n 0, 1) := by decide +kernel
theorem dX5_isStretchTold_16 : decode cX5_isStretchTold 16 = .ok (.getfield 46, 3) := by decide +kernel
theorem dX5_isStretchTold_19 : decode cX5_isStretchTold 19 = .ok (.getfield 130, 3) := by decide +kernel
theorem dX5_isStretchTold_22 : decode cX5_isStretchTold 22 = .ok (.if_icmp .lt 11, 3) := by decide +kernel
theorem dX5_isStretchTold_25 : decode cX5_isStretchTold 25 = .ok (.aload_n 0, 1) := by decide +kernel
theorem dX5_isStretchTold_26 : decode cX5_isStretchTold 26 = .ok (.iconst 3, 1) := by decide +kernel
theorem dX5_isStretchTold_27 : decode cX5_isStretchTold 27 = .ok (.invokevirtual 78, 3) := by decide +kernel
theorem dX5_isStretchTold_30 : decode cX5_isStretchTold 30 = .ok (.ifCond .eq 7, 3) := by decide +kernel
theorem dX5_isStretchTold_33 : decode cX5_isStretchTold 33 = .ok (.iconst 1, 1) := by decide +kernel
theorem dX5_isStretchTold_34 : decode cX5_isStretchTold 34 = .ok (.goto 4, 3) := by decide +kernel
theorem dX5_isStretchTold_37 : decode cX5_isStretchTold 37 = .ok (.iconst 0, 1) := by decide +kernel
theorem dX5_isStretchTold_38 : decode cX5_isStretchTold 38 = .ok (.ireturn, 1) := by decide +kernel
theorem dX5_readExpr_0 : decode cX5_readExpr 0 = .ok (.iload_n 1, 1) := by decide +kernel
theorem dX5_readExpr_1 : decode cX5_readExpr 1 = .ok (.bipush 6, 2) := by decide +kernel
theorem dX5_readExpr_3 : decode cX5_readExpr 3 = .ok (.if_icmp .lt 38, 3) := by decide +kernel
theorem dX5_readExpr_6 : decode cX5_readExpr 6 = .ok (.aload_n 0, 1) := by decide +kernel
theorem dX5_readExpr_7 : decode cX5_readExpr 7 = .ok (.aload_n 0, 1) := by decide +kernel
theorem dX5_readExpr_8 : decode cX5_readExpr 8 = .ok (.getfield 21, 3) := by decide +kernel
theorem dX5_readExpr_11 : decode cX5_readExpr 11 = .ok (.iconst 2, 1) := by decide +kernel
theorem dX5_readExpr_12 : decode cX5_readExpr 12 = .ok (.if_icmp .eq 20, 3) := by decide +kernel
theorem dX5_readExpr_15 : decode cX5_readExpr 15 = .ok (.aload_n 0, 1) := by decide +kernel
theorem dX5_readExpr_16 : decode cX5_readExpr 16 = .ok (.getfield 21, 3) := by decide +kernel
theorem dX5_readExpr_19 : decode cX5_readExpr 19 = .ok (.iconst 1, 1) := by decide +kernel
theorem dX5_readExpr_20 : decode cX5_readExpr 20 = .ok (.if_icmp .eq 12, 3) := by decide +kernel
theorem dX5_readExpr_23 : decode cX5_readExpr 23 = .ok (.aload_n 0, 1) := by decide +kernel
theorem dX5_readExpr_24 : decode cX5_readExpr 24 = .ok (.bipush 40, 2) := by decide +kernel
theorem dX5_readExpr_26 : decode cX5_readExpr 26 = .ok (.invokevirtual 74, 3) := by decide +kernel
theorem dX5_readExpr_29 : decode cX5_readExpr 29 = .ok (.ifCond .eq 7, 3) := by decide +kernel
theorem dX5_readExpr_32 : decode cX5_readExpr 32 = .ok (.iconst 2, 1) := by decide +kernel
theorem dX5_readExpr_33 : decode cX5_readExpr 33 = .ok (.goto 4, 3) := by decide +kernel
theorem dX5_readExpr_36 : decode cX5_readExpr 36 = .ok (.iconst 1, 1) := by decide +kernel
theorem dX5_readExpr_37 : decode cX5_readExpr 37 = .ok (.invokevirtual 78, 3) := by decide +kernel
theorem dX5_readExpr_40 : decode cX5_readExpr 40 = .ok (.ireturn, 1) := by decide +kernel
theorem dX5_readExpr_41 : decode cX5_readExpr 41 = .ok (.aload_n 0, 1) := by decide +kernel
theorem dX5_readExpr_42 : decode cX5_readExpr 42 = .ok (.iconst 0, 1) := by decide +kernel
theorem dX5_readExpr_43 : decode cX5_readExpr 43 = .ok (.iload_n 1, 1) := by decide +kernel
theorem dX5_readExpr_44 : decode cX5_readExpr 44 = .ok (.invokevirtual 201, 3) := by decide +kernel
theorem dX5_readExpr_47 : decode cX5_readExpr 47 = .ok (.ireturn, 1) := by decide +kernel
theorem dX5_readRank_0 : decode cX5_readRank 0 = .ok (.iload_n 1, 1) := by decide +kernel
theorem dX5_readRank_1 : decode cX5_readRank 1 = .ok (.iconst 5, 1) := by decide +kernel
theorem dX5_readRank_2 : decode cX5_readRank 2 = .ok (.if_icmp .lt 9, 3) := by decide +kernel
theorem dX5_readRank_5 : decode cX5_readRank 5 = .ok (.aload_n 0, 1) := by decide +kernel
theorem dX5_readRank_6 : decode cX5_readRank 6 = .ok (.iload_n 2, 1) := by decide +kernel
theorem dX5_readRank_7 : decode cX5_readRank 7 = .ok (.invokevirtual 204, 3) := by decide +kernel
theorem dX5_readRank_10 : decode cX5_readRank 10 = .ok (.ireturn, 1) := by decide +kernel
theorem dX5_readRank_11 : decode cX5_readRank 11 = .ok (.iload_n 1, 1) := by decide +kernel
theorem dX5_readRank_12 : decode cX5_readRank 12 = .ok (.iconst 2, 1) := by decide +kernel
theorem dX5_readRank_13 : decode cX5_readRank 13 = .ok (.if_icmp .ne 10, 3) := by decide +kernel
theorem dX5_readRank_16 : decode cX5_readRank 16 = .ok (.aload_n 0, 1) := by decide +kernel
theorem dX5_readRank_17 : decode cX5_readRank 17 = .ok (.invokevirtual 207, 3) := by decide +kernel
theorem dX5_readRank_20 : decode cX5_readRank 20 = .ok (.goto 4, 3) := by decide +kernel
theorem dX5_readRank_23 : decode cX5_readRank 23 = .ok (.iconst 0, 1) := by decide +kernel
theorem dX5_readRank_24 : decode cX5_readRank 24 = .ok (.istore_n 3, 1) := by decide +kernel
theorem dX5_readRank_25 : decode cX5_readRank 25 = .ok (.iload_n 3, 1) := by decide +kernel
theorem dX5_readRank_26 : decode cX5_readRank 26 = .ok (.bipush 6, 2) := by decide +kernel
theorem dX5_readRank_28 : decode cX5_readRank 28 = .ok (.if_icmp .gt 14, 3) := by decide +kernel
theorem dX5_readRank_31 : decode cX5_readRank 31 = .ok (.aload_n 0, 1) := by decide +kernel
theorem dX5_readRank_32 : decode cX5_readRank 32 = .ok (.iload_n 1, 1) := by decide +kernel
theorem dX5_readRank_33 : decode cX5_readRank 33 = .ok (.iconst 1, 1) := by decide +kernel
theorem dX5_readRank_34 : decode cX5_readRank 34 = .ok (.iadd, 1) := by decide +kernel
theorem dX5_readRank_35 : decode cX5_readRank 35 = .ok (.iload_n 2, 1) := by decide +kernel
theorem dX5_readRank_36 : decode cX5_readRank 36 = .ok (.invokevirtual 201, 3) := by decide +kernel
theorem dX5_readRank_39 : decode cX5_readRank 39 = .ok (.ifCond .ne 5, 3) := by decide +kernel
theorem dX5_readRank_42 : decode cX5_readRank 42 = .ok (.iconst 0, 1) := by decide +kernel
theorem dX5_readRank_43 : decode cX5_readRank 43 = .ok (.ireturn, 1) := by decide +kernel
theorem dX5_readRank_44 : decode cX5_readRank 44 = .ok (.iload_n 1, 1) := by decide +kernel
theorem dX5_readRank_45 : decode cX5_readRank 45 = .ok (.iconst 2, 1) := by decide +kernel
theorem dX5_readRank_46 : decode cX5_readRank 46 = .ok (.if_icmp .ne 7, 3) := by decide +kernel
theorem dX5_readRank_49 : decode cX5_readRank 49 = .ok (.iconst 1, 1) := by decide +kernel
theorem dX5_readRank_50 : decode cX5_readRank 50 = .ok (.goto 7, 3) := by decide +kernel
theorem dX5_readRank_53 : decode cX5_readRank 53 = .ok (.aload_n 0, 1) := by decide +kernel
theorem dX5_readRank_54 : decode cX5_readRank 54 = .ok (.getfield 43, 3) := by decide +kernel
theorem dX5_readRank_57 : decode cX5_readRank 57 = .ok (.istore 4, 2) := by decide +kernel
theorem dX5_readRank_59 : decode cX5_readRank 59 = .ok (.iconst 0, 1) := by decide +kernel
theorem dX5_readRank_60 : decode cX5_readRank 60 = .ok (.istore 5, 2) := by decide +kernel
theorem dX5_readRank_62 : decode cX5_readRank 62 = .ok (.iload 5, 2) := by decide +kernel
theorem dX5_readRank_64 : decode cX5_readRank 64 = .ok (.iload 4, 2) := by decide +kernel
theorem dX5_readRank_66 : decode cX5_readRank 66 = .ok (.if_icmp .ge 50, 3) := by decide +kernel
theorem dX5_readRank_69 : decode cX5_readRank 69 = .ok (.aload_n 0, 1) := by decide +kernel
theorem dX5_readRank_70 : decode cX5_readRank 70 = .ok (.iload_n 1, 1) := by decide +kernel
theorem dX5_readRank_71 : decode cX5_readRank 71 = .ok (.invokevirtual 211, 3) := by decide +kernel
theorem dX5_readRank_74 : decode cX5_readRank 74 = .ok (.ifCond .eq 42, 3) := by decide +kernel
theorem dX5_readRank_77 : decode cX5_readRank 77 = .ok (.aload_n 0, 1) := by decide +kernel
theorem dX5_readRank_78 : decode cX5_readRank 78 = .ok (.iload_n 1, 1) := by decide +kernel
theorem dX5_readRank_79 : decode cX5_readRank 79 = .ok (.invokevirtual 211, 3) := by decide +kernel
theorem dX5_readRank_82 : decode cX5_readRank 82 = .ok (.istore 6, 2) := by decide +kernel
theorem dX5_readRank_84 : decode cX5_readRank 84 = .ok (.aload_n 0, 1) := by decide +kernel
theorem dX5_readRank_85 : decode cX5_readRank 85 = .ok (.invokevirtual 54, 3) := by decide +kernel
theorem dX5_readRank_88 : decode cX5_readRank 88 = .ok (.aload_n 0, 1) := by decide +kernel
theorem dX5_readRank_89 : decode cX5_readRank 89 = .ok (.iload_n 1, 1) := by decide +kernel
theorem dX5_readRank_90 : decode cX5_readRank 90 = .ok (.iconst 1, 1) := by decide +kernel
theorem dX5_readRank_91 : decode cX5_readRank 91 = .ok (.iadd, 1) := by decide +kernel
theorem dX5_readRank_92 : decode cX5_readRank 92 = .ok (.iload_n 2, 1) := by decide +kernel
theorem dX5_readRank_93 : decode cX5_readRank 93 = .ok (.invokevirtual 201, 3) := by decide +kernel
theorem dX5_readRank_96 : decode cX5_readRank 96 = .ok (.ifCond .ne 5, 3) := by decide +kernel
theorem dX5_readRank_99 : decode cX5_readRank 99 = .ok (.iconst 0, 1) := by decide +kernel
theorem dX5_readRank_100 : decode cX5_readRank 100 = .ok (.ireturn, 1) := by decide +kernel
theorem dX5_readRank_101 : decode cX5_readRank 101 = .ok (.aload_n 0, 1) := by decide +kernel
theorem dX5_readRank_102 : decode cX5_readRank 102 = .ok (.getfield 46, 3) := by decide +kernel
theorem dX5_readRank_105 : decode cX5_readRank 105 = .ok (.iload 6, 2) := by decide +kernel
theorem dX5_readRank_107 : decode cX5_readRank 107 = .ok (.invokevirtual 214, 3) := by decide +kernel
theorem dX5_readRank_110 : decode cX5_readRank 110 = .ok (.iinc 5 1, 3) := by decide +kernel
theorem dX5_readRank_113 : decode cX5_readRank 113 = .ok (.goto (-51), 3) := by decide +kernel
theorem dX5_readRank_116 : decode cX5_readRank 116 = .ok (.iconst 0, 1) := by decide +kernel
theorem dX5_readRank_117 : decode cX5_readRank 117 = .ok (.istore 5, 2) := by decide +kernel
theorem dX5_readRank_119 : decode cX5_readRank 119 = .ok (.iload 5, 2) := by decide +kernel
theorem dX5_readRank_121 : decode cX5_readRank 121 = .ok (.iload_n 3, 1) := by decide +kernel
theorem dX5_readRank_122 : decode cX5_readRank 122 = .ok (.if_icmp .ge 18, 3) := by decide +kernel
theorem dX5_readRank_125 : decode cX5_readRank 125 = .ok (.aload_n 0, 1) := by decide +kernel
theorem dX5_readRank_126 : decode cX5_readRank 126 = .ok (.getfield 46, 3) := by decide +kernel
theorem dX5_readRank_129 : decode cX5_readRank 129 = .ok (.bipush (-7), 2) := by decide +kernel
theorem dX5_readRank_131 : decode cX5_readRank 131 = .ok (.invokevirtual 214, 3) := by decide +kernel
theorem dX5_readRank_134 : decode cX5_readRank 134 = .ok (.iinc 5 1, 3) := by decide +kernel
theorem dX5_readRank_137 : decode cX5_readRank 137 = .ok (.goto (-18), 3) := by decide +kernel
theorem dX5_readRank_140 : decode cX5_readRank 140 = .ok (.iconst 1, 1) := by decide +kernel
theorem dX5_readRank_141 : decode cX5_readRank 141 = .ok (.ireturn, 1) := by decide +kernel
theorem dX5_passNots_0 : decode cX5_passNots 0 = .ok (.iconst 0, 1) := by decide +kernel
theorem dX5_passNots_1 : decode cX5_passNots 1 = .ok (.istore_n 1, 1) := by decide +kernel
theorem dX5_passNots_2 : decode cX5_passNots 2 = .ok (.iload_n 1, 1) := by decide +kernel
theorem dX5_passNots_3 : decode cX5_passNots 3 = .ok (.bipush 6, 2) := by decide +kernel
theorem dX5_passNots_5 : decode cX5_passNots 5 = .ok (.if_icmp .ge 25, 3) := by decide +kernel
theorem dX5_passNots_8 : decode cX5_passNots 8 = .ok (.aload_n 0, 1) := by decide +kernel
theorem dX5_passNots_9 : decode cX5_passNots 9 = .ok (.getstatic 218, 3) := by decide +kernel
theorem dX5_passNots_12 : decode cX5_passNots 12 = .ok (.invokevirtual 86, 3) := by decide +kernel
theorem dX5_passNots_15 : decode cX5_passNots 15 = .ok (.ifCond .ne 5, 3) := by decide +kernel
theorem dX5_passNots_18 : decode cX5_passNots 18 = .ok (.iload_n 1, 1) := by decide +kernel
theorem dX5_passNots_19 : decode cX5_passNots 19 = .ok (.ireturn, 1) := by decide +kernel
theorem dX5_passNots_20 : decode cX5_passNots 20 = .ok (.aload_n 0, 1) := by decide +kernel
theorem dX5_passNots_21 : decode cX5_passNots 21 = .ok (.invokevirtual 54, 3) := by decide +kernel
theorem dX5_passNots_24 : decode cX5_passNots 24 = .ok (.iinc 1 1, 3) := by decide +kernel
theorem dX5_passNots_27 : decode cX5_passNots 27 = .ok (.goto (-25), 3) := by decide +kernel
theorem dX5_passNots_30 : decode cX5_passNots 30 = .ok (.aload_n 0, 1) := by decide +kernel
theorem dX5_passNots_31 : decode cX5_passNots 31 = .ok (.getstatic 218, 3) := by decide +kernel
theorem dX5_passNots_34 : decode cX5_passNots 34 = .ok (.invokevirtual 86, 3) := by decide +kernel
theorem dX5_passNots_37 : decode cX5_passNots 37 = .ok (.ifCond .eq 12, 3) := by decide +kernel
theorem dX5_passNots_40 : decode cX5_passNots 40 = .ok (.aload_n 0, 1) := by decide +kernel
theorem dX5_passNots_41 : decode cX5_passNots 41 = .ok (.iconst 2, 1) := by decide +kernel
theorem dX5_passNots_42 : decode cX5_passNots 42 = .ok (.invokevirtual 78, 3) := by decide +kernel
theorem dX5_passNots_45 : decode cX5_passNots 45 = .ok (.pop, 1) := by decide +kernel
theorem dX5_passNots_46 : decode cX5_passNots 46 = .ok (.bipush 7, 2) := by decide +kernel
theorem dX5_passNots_48 : decode cX5_passNots 48 = .ok (.ireturn, 1) := by decide +kernel
theorem dX5_passNots_49 : decode cX5_passNots 49 = .ok (.bipush 6, 2) := by decide +kernel
theorem dX5_passNots_51 : decode cX5_passNots 51 = .ok (.ireturn, 1) := by decide +kernel
theorem dX5_joint_0 : decode cX5_joint 0 = .ok (.iload_n 1, 1) := by decide +kernel
theorem dX5_joint_1 : decode cX5_joint 1 = .ok (.tableswitch 125 0 3 #[31, 48, 65, 95], 31) := by decide +kernel
theorem dX5_joint_32 : decode cX5_joint 32 = .ok (.aload_n 0, 1) := by decide +kernel
theorem dX5_joint_33 : decode cX5_joint 33 = .ok (.getstatic 221, 3) := by decide +kernel
theorem dX5_joint_36 : decode cX5_joint 36 = .ok (.invokevirtual 86, 3) := by decide +kernel
theorem dX5_joint_39 : decode cX5_joint 39 = .ok (.ifCond .eq 8, 3) := by decide +kernel
theorem dX5_joint_42 : decode cX5_joint 42 = .ok (.bipush (-8), 2) := by decide +kernel
theorem dX5_joint_44 : decode cX5_joint 44 = .ok (.goto 4, 3) := by decide +kernel
theorem dX5_joint_47 : decode cX5_joint 47 = .ok (.iconst 0, 1) := by decide +kernel
theorem dX5_joint_48 : decode cX5_joint 48 = .ok (.ireturn, 1) := by decide +kernel
theorem dX5_joint_49 : decode cX5_joint 49 = .ok (.aload_n 0, 1) := by decide +kernel
theorem dX5_joint_50 : decode cX5_joint 50 = .ok (.getstatic 224, 3) := by decide +kernel
theorem dX5_joint_53 : decode cX5_joint 53 = .ok (.invokevirtual 86, 3) := by decide +kernel
theorem dX5_joint_56 : decode cX5_joint 56 = .ok (.ifCond .eq 8, 3) := by decide +kernel
theorem dX5_joint_59 : decode cX5_joint 59 = .ok (.bipush (-9), 2) := by decide +kernel
theorem dX5_joint_61 : decode cX5_joint 61 = .ok (.goto 4, 3) := by decide +kernel
theorem dX5_joint_64 : decode cX5_joint 64 = .ok (.iconst 0, 1) := by decide +kernel
theorem dX5_joint_65 : decode cX5_joint 65 = .ok (.ireturn, 1) := by decide +kernel
theorem dX5_joint_66 : decode cX5_joint 66 = .ok (.aload_n 0, 1) := by decide +kernel
theorem dX5_joint_67 : decode cX5_joint 67 = .ok (.bipush 60, 2) := by decide +kernel
theorem dX5_joint_69 : decode cX5_joint 69 = .ok (.invokevirtual 74, 3) := by decide +kernel
theorem dX5_joint_72 : decode cX5_joint 72 = .ok (.ifCond .eq 8, 3) := by decide +kernel
theorem dX5_joint_75 : decode cX5_joint 75 = .ok (.bipush (-10), 2) := by decide +kernel
theorem dX5_joint_77 : decode cX5_joint 77 = .ok (.goto 18, 3) := by decide +kernel
theorem dX5_joint_80 : decode cX5_joint 80 = .ok (.aload_n 0, 1) := by decide +kernel
theorem dX5_joint_81 : decode cX5_joint 81 = .ok (.bipush 61, 2) := by decide +kernel
theorem dX5_joint_83 : decode cX5_joint 83 = .ok (.invokevirtual 74, 3) := by decide +kernel
theorem dX5_joint_86 : decode cX5_joint 86 = .ok (.ifCond .eq 8, 3) := by decide +kernel
theorem dX5_joint_89 : decode cX5_joint 89 = .ok (.bipush (-11), 2) := by decide +kernel
theorem dX5_joint_91 : decode cX5_joint 91 = .ok (.goto 4, 3) := by decide +kernel
theorem dX5_joint_94 : decode cX5_joint 94 = .ok (.iconst 0, 1) := by decide +kernel
theorem dX5_joint_95 : decode cX5_joint 95 = .ok (.ireturn, 1) := by decide +kernel
theorem dX5_joint_96 : decode cX5_joint 96 = .ok (.aload_n 0, 1) := by decide +kernel
theorem dX5_joint_97 : decode cX5_joint 97 = .ok (.bipush 43, 2) := by decide +kernel
theorem dX5_joint_99 : decode cX5_joint 99 = .ok (.invokevirtual 74, 3) := by decide +kernel
theorem dX5_joint_102 : decode cX5_joint 102 = .ok (.ifCond .eq 8, 3) := by decide +kernel
theorem dX5_joint_105 : decode cX5_joint 105 = .ok (.bipush (-12), 2) := by decide +kernel
theorem dX5_joint_107 : decode cX5_joint 107 = .ok (.goto 18, 3) := by decide +kernel
theorem dX5_joint_110 : decode cX5_joint 110 = .ok (.aload_n 0, 1) := by decide +kernel
theorem dX5_joint_111 : decode cX5_joint 111 = .ok (.bipush 45, 2) := by decide +kernel
theorem dX5_joint_113 : decode cX5_joint 113 = .ok (.invokevirtual 74, 3) := by decide +kernel
theorem dX5_joint_116 : decode cX5_joint 116 = .ok (.ifCond .eq 8, 3) := by decide +kernel
theorem dX5_joint_119 : decode cX5_joint 119 = .ok (.bipush (-13), 2) := by decide +kernel
theorem dX5_joint_121 : decode cX5_joint 121 = .ok (.goto 4, 3) := by decide +kernel
theorem dX5_joint_124 : decode cX5_joint 124 = .ok (.iconst 0, 1) := by decide +kernel
theorem dX5_joint_125 : decode cX5_joint 125 = .ok (.ireturn, 1) := by decide +kernel
theorem dX5_joint_126 : decode cX5_joint 126 = .ok (.aload_n 0, 1) := by decide +kernel
theorem dX5_joint_127 : decode cX5_joint 127 = .ok (.bipush 42, 2) := by decide +kernel
theorem dX5_joint_129 : decode cX5_joint 129 = .ok (.invokevirtual 74, 3) := by decide +kernel
theorem dX5_joint_132 : decode cX5_joint 132 = .ok (.ifCond .eq 8, 3) := by decide +kernel
theorem dX5_joint_135 : decode cX5_joint 135 = .ok (.bipush (-14), 2) := by decide +kernel
theorem dX5_joint_137 : decode cX5_joint 137 = .ok (.goto 18, 3) := by decide +kernel
theorem dX5_joint_140 : decode cX5_joint 140 = .ok (.aload_n 0, 1) := by decide +kernel
theorem dX5_joint_141 : decode cX5_joint 141 = .ok (.bipush 47, 2) := by decide +kernel
theorem dX5_joint_143 : decode cX5_joint 143 = .ok (.invokevirtual 74, 3) := by decide +kernel
theorem dX5_joint_146 : decode cX5_joint 146 = .ok (.ifCond .eq 8, 3) := by decide +kernel
theorem dX5_joint_149 : decode cX5_joint 149 = .ok (.bipush (-15), 2) := by decide +kernel
theorem dX5_joint_151 : decode cX5_joint 151 = .ok (.goto 4, 3) := by decide +kernel
theorem dX5_joint_154 : decode cX5_joint 154 = .ok (.iconst 0, 1) := by decide +kernel
theorem dX5_joint_155 : decode cX5_joint 155 = .ok (.ireturn, 1) := by decide +kernel
theorem dX5_readPart_0 : decode cX5_readPart 0 = .ok (.aload_n 0, 1) := by decide +kernel
theorem dX5_readPart_1 : decode cX5_readPart 1 = .ok (.bipush 40, 2) := by decide +kernel
theorem dX5_readPart_3 : decode cX5_readPart 3 = .ok (.invokevirtual 74, 3) := by decide +kernel
theorem dX5_readPart_6 : decode cX5_readPart 6 = .ok (.ifCond .eq 32, 3) := by decide +kernel
theorem dX5_readPart_9 : decode cX5_readPart 9 = .ok (.aload_n 0, 1) := by decide +kernel
theorem dX5_readPart_10 : decode cX5_readPart 10 = .ok (.invokevirtual 54, 3) := by decide +kernel
theorem dX5_readPart_13 : decode cX5_readPart 13 = .ok (.aload_n 0, 1) := by decide +kernel
theorem dX5_readPart_14 : decode cX5_readPart 14 = .ok (.iload_n 1, 1) := by decide +kernel
theorem dX5_readPart_15 : decode cX5_readPart 15 = .ok (.iconst 1, 1) := by decide +kernel
theorem dX5_readPart_16 : decode cX5_readPart 16 = .ok (.iadd, 1) := by decide +kernel
theorem dX5_readPart_17 : decode cX5_readPart 17 = .ok (.invokevirtual 195, 3) := by decide +kernel
theorem dX5_readPart_20 : decode cX5_readPart 20 = .ok (.ifCond .eq 16, 3) := by decide +kernel
theorem dX5_readPart_23 : decode cX5_readPart 23 = .ok (.aload_n 0, 1) := by decide +kernel
theorem dX5_readPart_24 : decode cX5_readPart 24 = .ok (.bipush 41, 2) := by decide +kernel
theorem dX5_readPart_26 : decode cX5_readPart 26 = .ok (.invokevirtual 143, 3) := by decide +kernel
theorem dX5_readPart_29 : decode cX5_readPart 29 = .ok (.ifCond .eq 7, 3) := by decide +kernel
theorem dX5_readPart_32 : decode cX5_readPart 32 = .ok (.iconst 1, 1) := by decide +kernel
theorem dX5_readPart_33 : decode cX5_readPart 33 = .ok (.goto 4, 3) := by decide +kernel
theorem dX5_readPart_36 : decode cX5_readPart 36 = .ok (.iconst 0, 1) := by decide +kernel
theorem dX5_readPart_37 : decode cX5_readPart 37 = .ok (.ireturn, 1) := by decide +kernel
theorem dX5_readPart_38 : decode cX5_readPart 38 = .ok (.aload_n 0, 1) := by decide +kernel
theorem dX5_readPart_39 : decode cX5_readPart 39 = .ok (.getfield 21, 3) := by decide +kernel
theorem dX5_readPart_42 : decode cX5_readPart 42 = .ok (.iconst 1, 1) := by decide +kernel
theorem dX5_readPart_43 : decode cX5_readPart 43 = .ok (.if_icmp .eq 17, 3) := by decide +kernel
theorem dX5_readPart_46 : decode cX5_readPart 46 = .ok (.aload_n 0, 1) := by decide +kernel
theorem dX5_readPart_47 : decode cX5_readPart 47 = .ok (.getfield 21, 3) := by decide +kernel
theorem dX5_readPart_50 : decode cX5_readPart 50 = .ok (.iconst 2, 1) := by decide +kernel
theorem dX5_readPart_51 : decode cX5_readPart 51 = .ok (.if_icmp .eq 9, 3) := by decide +kernel
theorem dX5_readPart_54 : decode cX5_readPart 54 = .ok (.aload_n 0, 1) := by decide +kernel
theorem dX5_readPart_55 : decode cX5_readPart 55 = .ok (.iconst 1, 1) := by decide +kernel
theorem dX5_readPart_56 : decode cX5_readPart 56 = .ok (.invokevirtual 78, 3) := by decide +kernel
theorem dX5_readPart_59 : decode cX5_readPart 59 = .ok (.ireturn, 1) := by decide +kernel
theorem dX5_readPart_60 : decode cX5_readPart 60 = .ok (.aload_n 0, 1) := by decide +kernel
theorem dX5_readPart_61 : decode cX5_readPart 61 = .ok (.getfield 21, 3) := by decide +kernel
theorem dX5_readPart_64 : decode cX5_readPart 64 = .ok (.iconst 2, 1) := by decide +kernel
theorem dX5_readPart_65 : decode cX5_readPart 65 = .ok (.if_icmp .ne 17, 3) := by decide +kernel
theorem dX5_readPart_68 : decode cX5_readPart 68 = .ok (.aload_n 0, 1) := by decide +kernel
theorem dX5_readPart_69 : decode cX5_readPart 69 = .ok (.getfield 30, 3) := by decide +kernel
theorem dX5_readPart_72 : decode cX5_readPart 72 = .ok (.iconst 4, 1) := by decide +kernel
theorem dX5_readPart_73 : decode cX5_readPart 73 = .ok (.if_icmp .le 9, 3) := by decide +kernel
theorem dX5_readPart_76 : decode cX5_readPart 76 = .ok (.aload_n 0, 1) := by decide +kernel
theorem dX5_readPart_77 : decode cX5_readPart 77 = .ok (.iconst 2, 1) := by decide +kernel
theorem dX5_readPart_78 : decode cX5_readPart 78 = .ok (.invokevirtual 78, 3) := by decide +kernel
theorem dX5_readPart_81 : decode cX5_readPart 81 = .ok (.ireturn, 1) := by decide +kernel
theorem dX5_readPart_82 : decode cX5_readPart 82 = .ok (.aload_n 0, 1) := by decide +kernel
theorem dX5_readPart_83 : decode cX5_readPart 83 = .ok (.getfield 21, 3) := by decide +kernel
theorem dX5_readPart_86 : decode cX5_readPart 86 = .ok (.iconst 2, 1) := by decide +kernel
theorem dX5_readPart_87 : decode cX5_readPart 87 = .ok (.if_icmp .ne 10, 3) := by decide +kernel
theorem dX5_readPart_90 : decode cX5_readPart 90 = .ok (.aload_n 0, 1) := by decide +kernel
theorem dX5_readPart_91 : decode cX5_readPart 91 = .ok (.getfield 27, 3) := by decide +kernel
theorem dX5_readPart_94 : decode cX5_readPart 94 = .ok (.goto 21, 3) := by decide +kernel
theorem dX5_readPart_97 : decode cX5_readPart 97 = .ok (.aload_n 0, 1) := by decide +kernel
theorem dX5_readPart_98 : decode cX5_readPart 98 = .ok (.getfield 33, 3) := by decide +kernel
theorem dX5_readPart_101 : decode cX5_readPart 101 = .ok (.aload_n 0, 1) := by decide +kernel
theorem dX5_readPart_102 : decode cX5_readPart 102 = .ok (.getfield 24, 3) := by decide +kernel
theorem dX5_readPart_105 : decode cX5_readPart 105 = .ok (.aload_n 0, 1) := by decide +kernel
theorem dX5_readPart_106 : decode cX5_readPart 106 = .ok (.getfield 18, 3) := by decide +kernel
theorem dX5_readPart_109 : decode cX5_readPart 109 = .ok (.invokestatic 227, 3) := by decide +kernel
theorem dX5_readPart_112 : decode cX5_readPart 112 = .ok (.getfield 231, 3) := by decide +kernel
theorem dX5_readPart_115 : decode cX5_readPart 115 = .ok (.istore_n 2, 1) := by decide +kernel
theorem dX5_readPart_116 : decode cX5_readPart 116 = .ok (.aload_n 0, 1) := by decide +kernel
theorem dX5_readPart_117 : decode cX5_readPart 117 = .ok (.getfield 21, 3) := by decide +kernel
theorem dX5_readPart_120 : decode cX5_readPart 120 = .ok (.iconst 1, 1) := by decide +kernel
theorem dX5_readPart_121 : decode cX5_readPart 121 = .ok (.if_icmp .ne 13, 3) := by decide +kernel
theorem dX5_readPart_124 : decode cX5_readPart 124 = .ok (.iload_n 2, 1) := by decide +kernel
theorem dX5_readPart_125 : decode cX5_readPart 125 = .ok (.ifCond .ne 9, 3) := by decide +kernel
theorem dX5_readPart_128 : decode cX5_readPart 128 = .ok (.aload_n 0, 1) := by decide +kernel
theorem dX5_readPart_129 : decode cX5_readPart 129 = .ok (.iconst 3, 1) := by decide +kernel
theorem dX5_readPart_130 : decode cX5_readPart 130 = .ok (.invokevirtual 78, 3) := by decide +kernel
theorem dX5_readPart_133 : decode cX5_readPart 133 = .ok (.ireturn, 1) := by decide +kernel
theorem dX5_readPart_134 : decode cX5_readPart 134 = .ok (.aload_n 0, 1) := by decide +kernel
theorem dX5_readPart_135 : decode cX5_readPart 135 = .ok (.getfield 46, 3) := by decide +kernel
theorem dX5_readPart_138 : decode cX5_readPart 138 = .ok (.iload_n 2, 1) := by decide +kernel
theorem dX5_readPart_139 : decode cX5_readPart 139 = .ok (.invokevirtual 214, 3) := by decide +kernel
theorem dX5_readPart_142 : decode cX5_readPart 142 = .ok (.aload_n 0, 1) := by decide +kernel
theorem dX5_readPart_143 : decode cX5_readPart 143 = .ok (.invokevirtual 54, 3) := by decide +kernel
theorem dX5_readPart_146 : decode cX5_readPart 146 = .ok (.iconst 1, 1) := by decide +kernel
theorem dX5_readPart_147 : decode cX5_readPart 147 = .ok (.ireturn, 1) := by decide +kernel
theorem dX11_init_0 : decode cX11_init 0 = .ok (.aload_n 0, 1) := by decide +kernel
theorem dX11_init_1 : decode cX11_init 1 = .ok (.invokespecial 3, 3) := by decide +kernel
theorem dX11_init_4 : decode cX11_init 4 = .ok (.aload_n 0, 1) := by decide +kernel
theorem dX11_init_5 : decode cX11_init 5 = .ok (.sipush 700, 3) := by decide +kernel
theorem dX11_init_8 : decode cX11_init 8 = .ok (.newarray .byte, 2) := by decide +kernel
theorem dX11_init_10 : decode cX11_init 10 = .ok (.putfield 9, 3) := by decide +kernel
theorem dX11_init_13 : decode cX11_init 13 = .ok (.aload_n 0, 1) := by decide +kernel
theorem dX11_init_14 : decode cX11_init 14 = .ok (.iconst 0, 1) := by decide +kernel
theorem dX11_init_15 : decode cX11_init 15 = .ok (.putfield 13, 3) := by decide +kernel
theorem dX11_init_18 : decode cX11_init 18 = .ok (.aload_n 0, 1) := by decide +kernel
theorem dX11_init_19 : decode cX11_init 19 = .ok (.iconst (-1), 1) := by decide +kernel
theorem dX11_init_20 : decode cX11_init 20 = .ok (.putfield 17, 3) := by decide +kernel
theorem dX11_init_23 : decode cX11_init 23 = .ok (.aload_n 0, 1) := by decide +kernel
theorem dX11_init_24 : decode cX11_init 24 = .ok (.iconst 0, 1) := by decide +kernel
theorem dX11_init_25 : decode cX11_init 25 = .ok (.putfield 20, 3) := by decide +kernel
theorem dX11_init_28 : decode cX11_init 28 = .ok (.aload_n 0, 1) := by decide +kernel
theorem dX11_init_29 : decode cX11_init 29 = .ok (.iconst 0, 1) := by decide +kernel
theorem dX11_init_30 : decode cX11_init 30 = .ok (.putfield 23, 3) := by decide +kernel
theorem dX11_init_33 : decode cX11_init 33 = .ok (.aload_n 0, 1) := by decide +kernel
theorem dX11_init_34 : decode cX11_init 34 = .ok (.iconst 0, 1) := by decide +kernel
theorem dX11_init_35 : decode cX11_init 35 = .ok (.putfield 26, 3) := by decide +kernel
theorem dX11_init_38 : decode cX11_init 38 = .ok (.aload_n 0, 1) := by decide +kernel
theorem dX11_init_39 : decode cX11_init 39 = .ok (.new 29, 3) := by decide +kernel
theorem dX11_init_42 : decode cX11_init 42 = .ok (.dup, 1) := by decide +kernel
theorem dX11_init_43 : decode cX11_init 43 = .ok (.invokespecial 31, 3) := by decide +kernel
theorem dX11_init_46 : decode cX11_init 46 = .ok (.putfield 32, 3) := by decide +kernel
theorem dX11_init_49 : decode cX11_init 49 = .ok (.aload_n 0, 1) := by decide +kernel
theorem dX11_init_50 : decode cX11_init 50 = .ok (.new 29, 3) := by decide +kernel
theorem dX11_init_53 : decode cX11_init 53 = .ok (.dup, 1) := by decide +kernel
theorem dX11_init_54 : decode cX11_init 54 = .ok (.invokespecial 31, 3) := by decide +kernel
theorem dX11_init_57 : decode cX11_init 57 = .ok (.putfield 36, 3) := by decide +kernel
theorem dX11_init_60 : decode cX11_init 60 = .ok (.aload_n 0, 1) := by decide +kernel
theorem dX11_init_61 : decode cX11_init 61 = .ok (.new 39, 3) := by decide +kernel
theorem dX11_init_64 : decode cX11_init 64 = .ok (.dup, 1) := by decide +kernel
theorem dX11_init_65 : decode cX11_init 65 = .ok (.invokespecial 41, 3) := by decide +kernel
theorem dX11_init_68 : decode cX11_init 68 = .ok (.putfield 42, 3) := by decide +kernel
theorem dX11_init_71 : decode cX11_init 71 = .ok (.aload_n 0, 1) := by decide +kernel
theorem dX11_init_72 : decode cX11_init 72 = .ok (.new 39, 3) := by decide +kernel
theorem dX11_init_75 : decode cX11_init 75 = .ok (.dup, 1) := by decide +kernel
theorem dX11_init_76 : decode cX11_init 76 = .ok (.invokespecial 41, 3) := by decide +kernel
theorem dX11_init_79 : decode cX11_init 79 = .ok (.putfield 46, 3) := by decide +kernel
theorem dX11_init_82 : decode cX11_init 82 = .ok (.aload_n 0, 1) := by decide +kernel
theorem dX11_init_83 : decode cX11_init 83 = .ok (.iconst 0, 1) := by decide +kernel
theorem dX11_init_84 : decode cX11_init 84 = .ok (.putfield 49, 3) := by decide +kernel
theorem dX11_init_87 : decode cX11_init 87 = .ok (.aload_n 0, 1) := by decide +kernel
theorem dX11_init_88 : decode cX11_init 88 = .ok (.new 53, 3) := by decide +kernel
theorem dX11_init_91 : decode cX11_init 91 = .ok (.dup, 1) := by decide +kernel
theorem dX11_init_92 : decode cX11_init 92 = .ok (.invokespecial 55, 3) := by decide +kernel
theorem dX11_init_95 : decode cX11_init 95 = .ok (.putfield 56, 3) := by decide +kernel
theorem dX11_init_98 : decode cX11_init 98 = .ok (.aload_n 0, 1) := by decide +kernel
theorem dX11_init_99 : decode cX11_init 99 = .ok (.new 53, 3) := by decide +kernel
theorem dX11_init_102 : decode cX11_init 102 = .ok (.dup, 1) := by decide +kernel
theorem dX11_init_103 : decode cX11_init 103 = .ok (.invokespecial 55, 3) := by decide +kernel
theorem dX11_init_106 : decode cX11_init 106 = .ok (.putfield 60, 3) := by decide +kernel
theorem dX11_init_109 : decode cX11_init 109 = .ok (.aload_n 0, 1) := by decide +kernel
theorem dX11_init_110 : decode cX11_init 110 = .ok (.new 63, 3) := by decide +kernel
theorem dX11_init_113 : decode cX11_init 113 = .ok (.dup, 1) := by decide +kernel
theorem dX11_init_114 : decode cX11_init 114 = .ok (.invokespecial 65, 3) := by decide +kernel
theorem dX11_init_117 : decode cX11_init 117 = .ok (.putfield 66, 3) := by decide +kernel
theorem dX11_init_120 : decode cX11_init 120 = .ok (.aload_n 0, 1) := by decide +kernel
theorem dX11_init_121 : decode cX11_init 121 = .ok (.iconst 0, 1) := by decide +kernel
theorem dX11_init_122 : decode cX11_init 122 = .ok (.putfield 70, 3) := by decide +kernel
theorem dX11_init_125 : decode cX11_init 125 = .ok (.aload_n 0, 1) := by decide +kernel
theorem dX11_init_126 : decode cX11_init 126 = .ok (.new 73, 3) := by decide +kernel
theorem dX11_init_129 : decode cX11_init 129 = .ok (.dup, 1) := by decide +kernel
theorem dX11_init_130 : decode cX11_init 130 = .ok (.invokespecial 75, 3) := by decide +kernel
theorem dX11_init_133 : decode cX11_init 133 = .ok (.putfield 76, 3) := by decide +kernel
theorem dX11_init_136 : decode cX11_init 136 = .ok (.aload_n 0, 1) := by decide +kernel
theorem dX11_init_137 : decode cX11_init 137 = .ok (.bipush 8, 2) := by decide +kernel
theorem dX11_init_139 : decode cX11_init 139 = .ok (.newarray .int, 2) := by decide +kernel
theorem dX11_init_141 : decode cX11_init 141 = .ok (.putfield 80, 3) := by decide +kernel
theorem dX11_init_144 : decode cX11_init 144 = .ok (.aload_n 0, 1) := by decide +kernel
theorem dX11_init_145 : decode cX11_init 145 = .ok (.getfield 32, 3) := by decide +kernel
theorem dX11_init_148 : decode cX11_init 148 = .ok (.aload_n 0, 1) := by decide +kernel
theorem dX11_init_149 : decode cX11_init 149 = .ok (.getfield 42, 3) := by decide +kernel
theorem dX11_init_152 : decode cX11_init 152 = .ok (.getfield 84, 3) := by decide +kernel
theorem dX11_init_155 : decode cX11_init 155 = .ok (.invokestatic 87, 3) := by decide +kernel
theorem dX11_init_158 : decode cX11_init 158 = .ok (.return_, 1) := by decide +kernel
theorem dX11_feed_0 : decode cX11_feed 0 = .ok (.aload_n 0, 1) := by decide +kernel
theorem dX11_feed_1 : decode cX11_feed 1 = .ok (.getfield 13, 3) := by decide +kernel
theorem dX11_feed_4 : decode cX11_feed 4 = .ok (.bipush 20, 2) := by decide +kernel
theorem dX11_feed_6 : decode cX11_feed 6 = .ok (.iadd, 1) := by decide +kernel
theorem dX11_feed_7 : decode cX11_feed 7 = .ok (.sipush 700, 3) := by decide +kernel
theorem dX11_feed_10 : decode cX11_feed 10 = .ok (.if_icmp .le 5, 3) := by decide +kernel
theorem dX11_feed_13 : decode cX11_feed 13 = .ok (.iconst (-1), 1) := by decide +kernel
theorem dX11_feed_14 : decode cX11_feed 14 = .ok (.ireturn, 1) := by decide +kernel
theorem dX11_feed_15 : decode cX11_feed 15 = .ok (.aload_n 0, 1) := by decide +kernel
theorem dX11_feed_16 : decode cX11_feed 16 = .ok (.iload_n 1, 1) := by decide +kernel
theorem dX11_feed_17 : decode cX11_feed 17 = .ok (.invokevirtual 91, 3) := by decide +kernel
theorem dX11_feed_20 : decode cX11_feed 20 = .ok (.aload_n 0, 1) := by decide +kernel
theorem dX11_feed_21 : decode cX11_feed 21 = .ok (.iload_n 2, 1) := by decide +kernel
theorem dX11_feed_22 : decode cX11_feed 22 = .ok (.invokevirtual 91, 3) := by decide +kernel
theorem dX11_feed_25 : decode cX11_feed 25 = .ok (.aload_n 0, 1) := by decide +kernel
theorem dX11_feed_26 : decode cX11_feed 26 = .ok (.iload_n 3, 1) := by decide +kernel
theorem dX11_feed_27 : decode cX11_feed 27 = .ok (.invokevirtual 91, 3) := by decide +kernel
theorem dX11_feed_30 : decode cX11_feed 30 = .ok (.aload_n 0, 1) := by decide +kernel
theorem dX11_feed_31 : decode cX11_feed 31 = .ok (.iload 4, 2) := by decide +kernel
theorem dX11_feed_33 : decode cX11_feed 33 = .ok (.invokevirtual 91, 3) := by decide +kernel
theorem dX11_feed_36 : decode cX11_feed 36 = .ok (.aload_n 0, 1) := by decide +kernel
theorem dX11_feed_37 : decode cX11_feed 37 = .ok (.iload 5, 2) := by decide +kernel
theorem dX11_feed_39 : decode cX11_feed 39 = .ok (.invokevirtual 91, 3) := by decide +kernel
theorem dX11_feed_42 : decode cX11_feed 42 = .ok (.aload_n 0, 1) := by decide +kernel
theorem dX11_feed_43 : decode cX11_feed 43 = .ok (.getfield 13, 3) := by decide +kernel
theorem dX11_feed_46 : decode cX11_feed 46 = .ok (.ireturn, 1) := by decide +kernel
theorem dX11_putBytes_0 : decode cX11_putBytes 0 = .ok (.bipush 24, 2) := by decide +kernel
theorem dX11_putBytes_2 : decode cX11_putBytes 2 = .ok (.istore_n 2, 1) := by decide +kernel
theorem dX11_putBytes_3 : decode cX11_putBytes 3 = .ok (.iload_n 2, 1) := by decide +kernel
theorem dX11_putBytes_4 : decode cX11_putBytes 4 = .ok (.ifCond .lt 44, 3) := by decide +kernel
theorem dX11_putBytes_7 : decode cX11_putBytes 7 = .ok (.aload_n 0, 1) := by decide +kernel
theorem dX11_putBytes_8 : decode cX11_putBytes 8 = .ok (.getfield 13, 3) := by decide +kernel
theorem dX11_putBytes_11 : decode cX11_putBytes 11 = .ok (.aload_n 0, 1) := by decide +kernel
theorem dX11_putBytes_12 : decode cX11_putBytes 12 = .ok (.getfield 9, 3) := by decide +kernel
theorem dX11_putBytes_15 : decode cX11_putBytes 15 = .ok (.arraylength, 1) := by decide +kernel
theorem dX11_putBytes_16 : decode cX11_putBytes 16 = .ok (.if_icmp .ge 26, 3) := by decide +kernel
theorem dX11_putBytes_19 : decode cX11_putBytes 19 = .ok (.aload_n 0, 1) := by decide +kernel
theorem dX11_putBytes_20 : decode cX11_putBytes 20 = .ok (.getfield 9, 3) := by decide +kernel
theorem dX11_putBytes_23 : decode cX11_putBytes 23 = .ok (.aload_n 0, 1) := by decide +kernel
theorem dX11_putBytes_24 : decode cX11_putBytes 24 = .ok (.getfield 13, 3) := by decide +kernel
theorem dX11_putBytes_27 : decode cX11_putBytes 27 = .ok (.iload_n 1, 1) := by decide +kernel
theorem dX11_putBytes_28 : decode cX11_putBytes 28 = .ok (.iload_n 2, 1) := by decide +kernel
theorem dX11_putBytes_29 : decode cX11_putBytes 29 = .ok (.iushr, 1) := by decide +kernel
theorem dX11_putBytes_30 : decode cX11_putBytes 30 = .ok (.i2b, 1) := by decide +kernel
theorem dX11_putBytes_31 : decode cX11_putBytes 31 = .ok (.bastore, 1) := by decide +kernel
theorem dX11_putBytes_32 : decode cX11_putBytes 32 = .ok (.aload_n 0, 1) := by decide +kernel
theorem dX11_putBytes_33 : decode cX11_putBytes 33 = .ok (.dup, 1) := by decide +kernel
theorem dX11_putBytes_34 : decode cX11_putBytes 34 = .ok (.getfield 13, 3) := by decide +kernel
theorem dX11_putBytes_37 : decode cX11_putBytes 37 = .ok (.iconst 1, 1) := by decide +kernel
theorem dX11_putBytes_38 : decode cX11_putBytes 38 = .ok (.iadd, 1) := by decide +kernel
theorem dX11_putBytes_39 : decode cX11_putBytes 39 = .ok (.putfield 13, 3) := by decide +kernel
theorem dX11_putBytes_42 : decode cX11_putBytes 42 = .ok (.iinc 2 (-8), 3) := by decide +kernel
theorem dX11_putBytes_45 : decode cX11_putBytes 45 = .ok (.goto (-42), 3) := by decide +kernel
theorem dX11_putBytes_48 : decode cX11_putBytes 48 = .ok (.return_, 1) := by decide +kernel
theorem dX11_ring_0 : decode cX11_ring 0 = .ok (.iload_n 1, 1) := by decide +kernel
theorem dX11_ring_1 : decode cX11_ring 1 = .ok (.ifCond .lt 11, 3) := by decide +kernel
theorem dX11_ring_4 : decode cX11_ring 4 = .ok (.iload_n 1, 1) := by decide +kernel
theorem dX11_ring_5 : decode cX11_ring 5 = .ok (.aload_n 0, 1) := by decide +kernel
theorem dX11_ring_6 : decode cX11_ring 6 = .ok (.getfield 13, 3) := by decide +kernel
theorem dX11_ring_9 : decode cX11_ring 9 = .ok (.if_icmp .le 13, 3) := by decide +kernel
theorem dX11_ring_12 : decode cX11_ring 12 = .ok (.new 95, 3) := by decide +kernel
theorem dX11_ring_15 : decode cX11_ring 15 = .ok (.dup, 1) := by decide +kernel
theorem dX11_ring_16 : decode cX11_ring 16 = .ok (.ldc 97, 2) := by decide +kernel
theorem dX11_ring_18 : decode cX11_ring 18 = .ok (.invokespecial 99, 3) := by decide +kernel
theorem dX11_ring_21 : decode cX11_ring 21 = .ok (.athrow, 1) := by decide +kernel
theorem dX11_ring_22 : decode cX11_ring 22 = .ok (.aload_n 0, 1) := by decide +kernel
theorem dX11_ring_23 : decode cX11_ring 23 = .ok (.iconst 0, 1) := by decide +kernel
theorem dX11_ring_24 : decode cX11_ring 24 = .ok (.putfield 13, 3) := by decide +kernel
theorem dX11_ring_27 : decode cX11_ring 27 = .ok (.aload_n 0, 1) := by decide +kernel
theorem dX11_ring_28 : decode cX11_ring 28 = .ok (.getfield 36, 3) := by decide +kernel
theorem dX11_ring_31 : decode cX11_ring 31 = .ok (.invokevirtual 102, 3) := by decide +kernel
theorem dX11_ring_34 : decode cX11_ring 34 = .ok (.aload_n 0, 1) := by decide +kernel
theorem dX11_ring_35 : decode cX11_ring 35 = .ok (.getfield 56, 3) := by decide +kernel
theorem dX11_ring_38 : decode cX11_ring 38 = .ok (.iconst 0, 1) := by decide +kernel
theorem dX11_ring_39 : decode cX11_ring 39 = .ok (.putfield 105, 3) := by decide +kernel
theorem dX11_ring_42 : decode cX11_ring 42 = .ok (.new 108, 3) := by decide +kernel
theorem dX11_ring_45 : decode cX11_ring 45 = .ok (.dup, 1) := by decide +kernel
theorem dX11_ring_46 : decode cX11_ring 46 = .ok (.aload_n 0, 1) := by decide +kernel
theorem dX11_ring_47 : decode cX11_ring 47 = .ok (.getfield 9, 3) := by decide +kernel
theorem dX11_ring_50 : decode cX11_ring 50 = .ok (.iload_n 1, 1) := by decide +kernel
theorem dX11_ring_51 : decode cX11_ring 51 = .ok (.aload_n 0, 1) := by decide +kernel
theorem dX11_ring_52 : decode cX11_ring 52 = .ok (.getfield 36, 3) := by decide +kernel
theorem dX11_ring_55 : decode cX11_ring 55 = .ok (.aload_n 0, 1) := by decide +kernel
theorem dX11_ring_56 : decode cX11_ring 56 = .ok (.getfield 56, 3) := by decide +kernel
theorem dX11_ring_59 : decode cX11_ring 59 = .ok (.invokespecial 110, 3) := by decide +kernel
theorem dX11_ring_62 : decode cX11_ring 62 = .ok (.astore_n 2, 1) := by decide +kernel
theorem dX11_ring_63 : decode cX11_ring 63 = .ok (.aload_n 2, 1) := by decide +kernel
theorem dX11_ring_64 : decode cX11_ring 64 = .ok (.invokevirtual 113, 3) := by decide +kernel
theorem dX11_ring_67 : decode cX11_ring 67 = .ok (.ifCond .ne 26, 3) := by decide +kernel
theorem dX11_ring_70 : decode cX11_ring 70 = .ok (.aload_n 0, 1) := by decide +kernel
theorem dX11_ring_71 : decode cX11_ring 71 = .ok (.aload_n 2, 1) := by decide +kernel
theorem dX11_ring_72 : decode cX11_ring 72 = .ok (.getfield 117, 3) := by decide +kernel
theorem dX11_ring_75 : decode cX11_ring 75 = .ok (.putfield 17, 3) := by decide +kernel
theorem dX11_ring_78 : decode cX11_ring 78 = .ok (.aload_n 0, 1) := by decide +kernel
theorem dX11_ring_79 : decode cX11_ring 79 = .ok (.dup, 1) := by decide +kernel
theorem dX11_ring_80 : decode cX11_ring 80 = .ok (.getfield 20, 3) := by decide +kernel
theorem dX11_ring_83 : decode cX11_ring 83 = .ok (.iconst 1, 1) := by decide +kernel
theorem dX11_ring_84 : decode cX11_ring 84 = .ok (.iadd, 1) := by decide +kernel
theorem dX11_ring_85 : decode cX11_ring 85 = .ok (.putfield 20, 3) := by decide +kernel
theorem dX11_ring_88 : decode cX11_ring 88 = .ok (.aload_n 2, 1) := by decide +kernel
theorem dX11_ring_89 : decode cX11_ring 89 = .ok (.getfield 120, 3) := by decide +kernel
theorem dX11_ring_92 : decode cX11_ring 92 = .ok (.ireturn, 1) := by decide +kernel
theorem dX11_ring_93 : decode cX11_ring 93 = .ok (.aload_n 0, 1) := by decide +kernel
theorem dX11_ring_94 : decode cX11_ring 94 = .ok (.iconst (-1), 1) := by decide +kernel
theorem dX11_ring_95 : decode cX11_ring 95 = .ok (.putfield 17, 3) := by decide +kernel
theorem dX11_ring_98 : decode cX11_ring 98 = .ok (.aload_n 0, 1) := by decide +kernel
theorem dX11_ring_99 : decode cX11_ring 99 = .ok (.getfield 32, 3) := by decide +kernel
theorem dX11_ring_102 : decode cX11_ring 102 = .ok (.astore_n 3, 1) := by decide +kernel
theorem dX11_ring_103 : decode cX11_ring 103 = .ok (.aload_n 0, 1) := by decide +kernel
theorem dX11_ring_104 : decode cX11_ring 104 = .ok (.aload_n 0, 1) := by decide +kernel
theorem dX11_ring_105 : decode cX11_ring 105 = .ok (.getfield 36, 3) := by decide +kernel
theorem dX11_ring_108 : decode cX11_ring 108 = .ok (.putfield 32, 3) := by decide +kernel
theorem dX11_ring_111 : decode cX11_ring 111 = .ok (.aload_n 0, 1) := by decide +kernel
theorem dX11_ring_112 : decode cX11_ring 112 = .ok (.aload_n 3, 1) := by decide +kernel
theorem dX11_ring_113 : decode cX11_ring 113 = .ok (.putfield 36, 3) := by decide +kernel
theorem dX11_ring_116 : decode cX11_ring 116 = .ok (.aload_n 0, 1) := by decide +kernel
theorem dX11_ring_117 : decode cX11_ring 117 = .ok (.getfield 32, 3) := by decide +kernel
theorem dX11_ring_120 : decode cX11_ring 120 = .ok (.aload_n 0, 1) := by decide +kernel
theorem dX11_ring_121 : decode cX11_ring 121 = .ok (.getfield 56, 3) := by decide +kernel
theorem dX11_ring_124 : decode cX11_ring 124 = .ok (.invokestatic 87, 3) := by decide +kernel
theorem dX11_ring_127 : decode cX11_ring 127 = .ok (.aload_n 0, 1) := by decide +kernel
theorem dX11_ring_128 : decode cX11_ring 128 = .ok (.getfield 42, 3) := by decide +kernel
theorem dX11_ring_131 : decode cX11_ring 131 = .ok (.getfield 84, 3) := by decide +kernel
theorem dX11_ring_134 : decode cX11_ring 134 = .ok (.aload_n 0, 1) := by decide +kernel
theorem dX11_ring_135 : decode cX11_ring 135 = .ok (.getfield 56, 3) := by decide +kernel
theorem dX11_ring_138 : decode cX11_ring 138 = .ok (.invokevirtual 123, 3) := by decide +kernel
theorem dX11_ring_141 : decode cX11_ring 141 = .ok (.aload_n 0, 1) := by decide +kernel
theorem dX11_ring_142 : decode cX11_ring 142 = .ok (.getfield 42, 3) := by decide +kernel
theorem dX11_ring_145 : decode cX11_ring 145 = .ok (.getfield 127, 3) := by decide +kernel
theorem dX11_ring_148 : decode cX11_ring 148 = .ok (.invokevirtual 131, 3) := by decide +kernel
theorem dX11_ring_151 : decode cX11_ring 151 = .ok (.aload_n 0, 1) := by decide +kernel
theorem dX11_ring_152 : decode cX11_ring 152 = .ok (.getfield 42, 3) := by decide +kernel
theorem dX11_ring_155 : decode cX11_ring 155 = .ok (.getfield 134, 3) := by decide +kernel
theorem dX11_ring_158 : decode cX11_ring 158 = .ok (.invokevirtual 138, 3) := by decide +kernel
theorem dX11_ring_161 : decode cX11_ring 161 = .ok (.aload_n 0, 1) := by decide +kernel
theorem dX11_ring_162 : decode cX11_ring 162 = .ok (.iconst 0, 1) := by decide +kernel
theorem dX11_ring_163 : decode cX11_ring 163 = .ok (.putfield 49, 3) := by decide +kernel
theorem dX11_ring_166 : decode cX11_ring 166 = .ok (.iconst 0, 1) := by decide +kernel
theorem dX11_ring_167 : decode cX11_ring 167 = .ok (.ireturn, 1) := by decide +kernel
theorem dX11_fault_0 : decode cX11_fault 0 = .ok (.aload_n 0, 1) := by decide +kernel
theorem dX11_fault_1 : decode cX11_fault 1 = .ok (.getfield 17, 3) := by decide +kernel
theorem dX11_fault_4 : decode cX11_fault 4 = .ok (.ireturn, 1) := by decide +kernel
theorem dX11_count_0 : decode cX11_count 0 = .ok (.iload_n 1, 1) := by decide +kernel
theorem dX11_count_1 : decode cX11_count 1 = .ok (.tableswitch 223 0 14 #[75, 83, 91, 102, 110, 121, 136, 151, 166, 181, 192, 203, 208, 213, 218], 75) := by decide +kernel
theorem dX11_count_76 : decode cX11_count 76 = .ok (.aload_n 0, 1) := by decide +kernel
theorem dX11_count_77 : decode cX11_count 77 = .ok (.getfield 32, 3) := by decide +kernel
theorem dX11_count_80 : decode cX11_count 80 = .ok (.getfield 141, 3) := by decide +kernel
theorem dX11_count_83 : decode cX11_count 83 = .ok (.ireturn, 1) := by decide +kernel
theorem dX11_count_84 : decode cX11_count 84 = .ok (.aload_n 0, 1) := by decide +kernel
theorem dX11_count_85 : decode cX11_count 85 = .ok (.getfield 32, 3) := by decide +kernel
theorem dX11_count_88 : decode cX11_count 88 = .ok (.getfield 144, 3) := by decide +kernel
theorem dX11_count_91 : decode cX11_count 91 = .ok (.ireturn, 1) := by decide +kernel
theorem dX11_count_92 : decode cX11_count 92 = .ok (.aload_n 0, 1) := by decide +kernel
theorem dX11_count_93 : decode cX11_count 93 = .ok (.getfield 32, 3) := by decide +kernel
theorem dX11_count_96 : decode cX11_count 96 = .ok (.getfield 147, 3) := by decide +kernel
theorem dX11_count_99 : decode cX11_count 99 = .ok (.getfield 151, 3) := by decide +kernel
theorem dX11_count_102 : decode cX11_count 102 = .ok (.ireturn, 1) := by decide +kernel
theorem dX11_count_103 : decode cX11_count 103 = .ok (.aload_n 0, 1) := by decide +kernel
theorem dX11_count_104 : decode cX11_count 104 = .ok (.getfield 32, 3) := by decide +kernel
theorem dX11_count_107 : decode cX11_count 107 = .ok (.getfield 156, 3) := by decide +kernel
theorem dX11_count_110 : decode cX11_count 110 = .ok (.ireturn, 1) := by decide +kernel
theorem dX11_count_111 : decode cX11_count 111 = .ok (.aload_n 0, 1) := by decide +kernel
theorem dX11_count_112 : decode cX11_count 112 = .ok (.getfield 42, 3) := by decide +kernel
theorem dX11_count_115 : decode cX11_count 115 = .ok (.getfield 84, 3) := by decide +kernel
theorem dX11_count_118 : decode cX11_count 118 = .ok (.getfield 105, 3) := by decide +kernel
theorem dX11_count_121 : decode cX11_count 121 = .ok (.ireturn, 1) := by decide +kernel
theorem dX11_count_122 : decode cX11_count 122 = .ok (.aload_n 0, 1) := by decide +kernel
theorem dX11_count_123 : decode cX11_count 123 = .ok (.getfield 42, 3) := by decide +kernel
theorem dX11_count_126 : decode cX11_count 126 = .ok (.getfield 84, 3) := by decide +kernel
theorem dX11_count_129 : decode cX11_count 129 = .ok (.aload_n 0, 1) := by decide +kernel
theorem dX11_count_130 : decode cX11_count 130 = .ok (.getfield 32, 3) := by decide +kernel
theorem dX11_count_133 : decode cX11_count 133 = .ok (.invokevirtual 159, 3) := by decide +kernel
theorem dX11_count_136 : decode cX11_count 136 = .ok (.ireturn, 1) := by decide +kernel
theorem dX11_count_137 : decode cX11_count 137 = .ok (.aload_n 0, 1) := by decide +kernel
theorem dX11_count_138 : decode cX11_count 138 = .ok (.getfield 42, 3) := by decide +kernel
theorem dX11_count_141 : decode cX11_count 141 = .ok (.getfield 84, 3) := by decide +kernel
theorem dX11_count_144 : decode cX11_count 144 = .ok (.aload_n 0, 1) := by decide +kernel
theorem dX11_count_145 : decode cX11_count 145 = .ok (.getfield 32, 3) := by decide +kernel
theorem dX11_count_148 : decode cX11_count 148 = .ok (.invokevirtual 163, 3) := by decide +kernel
theorem dX11_count_151 : decode cX11_count 151 = .ok (.ireturn, 1) := by decide +kernel
theorem dX11_count_152 : decode cX11_count 152 = .ok (.aload_n 0, 1) := by decide +kernel
theorem dX11_count_153 : decode cX11_count 153 = .ok (.getfield 42, 3) := by decide +kernel
theorem dX11_count_156 : decode cX11_count 156 = .ok (.getfield 84, 3) := by decide +kernel
theorem dX11_count_159 : decode cX11_count 159 = .ok (.aload_n 0, 1) := by decide +kernel
theorem dX11_count_160 : decode cX11_count 160 = .ok (.getfield 32, 3) := by decide +kernel
theorem dX11_count_163 : decode cX11_count 163 = .ok (.invokevirtual 166, 3) := by decide +kernel
theorem dX11_count_166 : decode cX11_count 166 = .ok (.ireturn, 1) := by decide +kernel
theorem dX11_count_167 : decode cX11_count 167 = .ok (.aload_n 0, 1) := by decide +kernel
theorem dX11_count_168 : decode cX11_count 168 = .ok (.getfield 42, 3) := by decide +kernel
theorem dX11_count_171 : decode cX11_count 171 = .ok (.getfield 84, 3) := by decide +kernel
theorem dX11_count_174 : decode cX11_count 174 = .ok (.aload_n 0, 1) := by decide +kernel
theorem dX11_count_175 : decode cX11_count 175 = .ok (.getfield 32, 3) := by decide +kernel
theorem dX11_count_178 : decode cX11_count 178 = .ok (.invokevirtual 169, 3) := by decide +kernel
theorem dX11_count_181 : decode cX11_count 181 = .ok (.ireturn, 1) := by decide +kernel
theorem dX11_count_182 : decode cX11_count 182 = .ok (.aload_n 0, 1) := by decide +kernel
theorem dX11_count_183 : decode cX11_count 183 = .ok (.getfield 42, 3) := by decide +kernel
theorem dX11_count_186 : decode cX11_count 186 = .ok (.getfield 127, 3) := by decide +kernel
theorem dX11_count_189 : decode cX11_count 189 = .ok (.getfield 172, 3) := by decide +kernel
theorem dX11_count_192 : decode cX11_count 192 = .ok (.ireturn, 1) := by decide +kernel
theorem dX11_count_193 : decode cX11_count 193 = .ok (.aload_n 0, 1) := by decide +kernel
theorem dX11_count_194 : decode cX11_count 194 = .ok (.getfield 42, 3) := by decide +kernel
theorem dX11_count_197 : decode cX11_count 197 = .ok (.getfield 134, 3) := by decide +kernel
theorem dX11_count_200 : decode cX11_count 200 = .ok (.getfield 173, 3) := by decide +kernel
theorem dX11_count_203 : decode cX11_count 203 = .ok (.ireturn, 1) := by decide +kernel
theorem dX11_count_204 : decode cX11_count 204 = .ok (.aload_n 0, 1) := by decide +kernel
theorem dX11_count_205 : decode cX11_count 205 = .ok (.getfield 13, 3) := by decide +kernel
theorem dX11_count_208 : decode cX11_count 208 = .ok (.ireturn, 1) := by decide +kernel
theorem dX11_count_209 : decode cX11_count 209 = .ok (.aload_n 0, 1) := by decide +kernel
theorem dX11_count_210 : decode cX11_count 210 = .ok (.getfield 20, 3) := by decide +kernel
theorem dX11_count_213 : decode cX11_count 213 = .ok (.ireturn, 1) := by decide +kernel
theorem dX11_count_214 : decode cX11_count 214 = .ok (.aload_n 0, 1) := by decide +kernel
theorem dX11_count_215 : decode cX11_count 215 = .ok (.getfield 23, 3) := by decide +kernel
theorem dX11_count_218 : decode cX11_count 218 = .ok (.ireturn, 1) := by decide +kernel
theorem dX11_count_219 : decode cX11_count 219 = .ok (.aload_n 0, 1) := by decide +kernel
theorem dX11_count_220 : decode cX11_count 220 = .ok (.getfield 26, 3) := by decide +kernel
theorem dX11_count_223 : decode cX11_count 223 = .ok (.ireturn, 1) := by decide +kernel
theorem dX11_count_224 : decode cX11_count 224 = .ok (.new 174, 3) := by decide +kernel
theorem dX11_count_227 : decode cX11_count 227 = .ok (.dup, 1) := by decide +kernel
theorem dX11_count_228 : decode cX11_count 228 = .ok (.ldc 176, 2) := by decide +kernel
theorem dX11_count_230 : decode cX11_count 230 = .ok (.invokespecial 178, 3) := by decide +kernel
theorem dX11_count_233 : decode cX11_count 233 = .ok (.athrow, 1) := by decide +kernel
theorem dX11_stretch_0 : decode cX11_stretch 0 = .ok (.aload_n 0, 1) := by decide +kernel
theorem dX11_stretch_1 : decode cX11_stretch 1 = .ok (.iload_n 1, 1) := by decide +kernel
theorem dX11_stretch_2 : decode cX11_stretch 2 = .ok (.invokevirtual 179, 3) := by decide +kernel
theorem dX11_stretch_5 : decode cX11_stretch 5 = .ok (.iload_n 2, 1) := by decide +kernel
theorem dX11_stretch_6 : decode cX11_stretch 6 = .ok (.tableswitch 161 0 5 #[38, 51, 64, 77, 93, 127], 38) := by decide +kernel
theorem dX11_stretch_44 : decode cX11_stretch 44 = .ok (.aload_n 0, 1) := by decide +kernel
theorem dX11_stretch_45 : decode cX11_stretch 45 = .ok (.getfield 42, 3) := by decide +kernel
theorem dX11_stretch_48 : decode cX11_stretch 48 = .ok (.getfield 84, 3) := by decide +kernel
theorem dX11_stretch_51 : decode cX11_stretch 51 = .ok (.getfield 182, 3) := by decide +kernel
theorem dX11_stretch_54 : decode cX11_stretch 54 = .ok (.iload_n 1, 1) := by decide +kernel
theorem dX11_stretch_55 : decode cX11_stretch 55 = .ok (.iaload, 1) := by decide +kernel
theorem dX11_stretch_56 : decode cX11_stretch 56 = .ok (.ireturn, 1) := by decide +kernel
theorem dX11_stretch_57 : decode cX11_stretch 57 = .ok (.aload_n 0, 1) := by decide +kernel
theorem dX11_stretch_58 : decode cX11_stretch 58 = .ok (.getfield 42, 3) := by decide +kernel
theorem dX11_stretch_61 : decode cX11_stretch 61 = .ok (.getfield 84, 3) := by decide +kernel
theorem dX11_stretch_64 : decode cX11_stretch 64 = .ok (.getfield 185, 3) := by decide +kernel
theorem dX11_stretch_67 : decode cX11_stretch 67 = .ok (.iload_n 1, 1) := by decide +kernel
theorem dX11_stretch_68 : decode cX11_stretch 68 = .ok (.iaload, 1) := by decide +kernel
theorem dX11_stretch_69 : decode cX11_stretch 69 = .ok (.ireturn, 1) := by decide +kernel
theorem dX11_stretch_70 : decode cX11_stretch 70 = .ok (.aload_n 0, 1) := by decide +kernel
theorem dX11_stretch_71 : decode cX11_stretch 71 = .ok (.getfield 42, 3) := by decide +kernel
theorem dX11_stretch_74 : decode cX11_stretch 74 = .ok (.getfield 84, 3) := by decide +kernel
theorem dX11_stretch_77 : decode cX11_stretch 77 = .ok (.getfield 188, 3) := by decide +kernel
theorem dX11_stretch_80 : decode cX11_stretch 80 = .ok (.iload_n 1, 1) := by decide +kernel
theorem dX11_stretch_81 : decode cX11_stretch 81 = .ok (.iaload, 1) := by decide +kernel
theorem dX11_stretch_82 : decode cX11_stretch 82 = .ok (.ireturn, 1) := by decide +kernel
theorem dX11_stretch_83 : decode cX11_stretch 83 = .ok (.aload_n 0, 1) := by decide +kernel
theorem dX11_stretch_84 : decode cX11_stretch 84 = .ok (.getfield 42, 3) := by decide +kernel
theorem dX11_stretch_87 : decode cX11_stretch 87 = .ok (.getfield 84, 3) := by decide +kernel
theorem dX11_stretch_90 : decode cX11_stretch 90 = .ok (.aload_n 0, 1) := by decide +kernel
theorem dX11_stretch_91 : decode cX11_stretch 91 = .ok (.getfield 32, 3) := by decide +kernel
theorem dX11_stretch_94 : decode cX11_stretch 94 = .ok (.iload_n 1, 1) := by decide +kernel
theorem dX11_stretch_95 : decode cX11_stretch 95 = .ok (.invokevirtual 191, 3) := by decide +kernel
theorem dX11_stretch_98 : decode cX11_stretch 98 = .ok (.ireturn, 1) := by decide +kernel
theorem dX11_stretch_99 : decode cX11_stretch 99 = .ok (.aload_n 0, 1) := by decide +kernel
theorem dX11_stretch_100 : decode cX11_stretch 100 = .ok (.getfield 42, 3) := by decide +kernel
theorem dX11_stretch_103 : decode cX11_stretch 103 = .ok (.getfield 84, 3) := by decide +kernel
theorem dX11_stretch_106 : decode cX11_stretch 106 = .ok (.iload_n 1, 1) := by decide +kernel
theorem dX11_stretch_107 : decode cX11_stretch 107 = .ok (.invokevirtual 195, 3) := by decide +kernel
theorem dX11_stretch_110 : decode cX11_stretch 110 = .ok (.ifCond .eq 7, 3) := by decide +kernel
theorem dX11_stretch_113 : decode cX11_stretch 113 = .ok (.iconst 0, 1) := by decide +kernel
theorem dX11_stretch_114 : decode cX11_stretch 114 = .ok (.goto 18, 3) := by decide +kernel
theorem dX11_stretch_117 : decode cX11_stretch 117 = .ok (.aload_n 0, 1) := by decide +kernel
theorem dX11_stretch_118 : decode cX11_stretch 118 = .ok (.getfield 42, 3) := by decide +kernel
theorem dX11_stretch_121 : decode cX11_stretch 121 = .ok (.getfield 84, 3) := by decide +kernel
theorem dX11_stretch_124 : decode cX11_stretch 124 = .ok (.aload_n 0, 1) := by decide +kernel
theorem dX11_stretch_125 : decode cX11_stretch 125 = .ok (.getfield 32, 3) := by decide +kernel
theorem dX11_stretch_128 : decode cX11_stretch 128 = .ok (.iload_n 1, 1) := by decide +kernel
theorem dX11_stretch_129 : decode cX11_stretch 129 = .ok (.invokevirtual 199, 3) := by decide +kernel
theorem dX11_stretch_132 : decode cX11_stretch 132 = .ok (.ireturn, 1) := by decide +kernel
theorem dX11_stretch_133 : decode cX11_stretch 133 = .ok (.aload_n 0, 1) := by decide +kernel
theorem dX11_stretch_134 : decode cX11_stretch 134 = .ok (.getfield 42, 3) := by decide +kernel
theorem dX11_stretch_137 : decode cX11_stretch 137 = .ok (.getfield 84, 3) := by decide +kernel
theorem dX11_stretch_140 : decode cX11_stretch 140 = .ok (.iload_n 1, 1) := by decide +kernel
theorem dX11_stretch_141 : decode cX11_stretch 141 = .ok (.invokevirtual 195, 3) := by decide +kernel
theorem dX11_stretch_144 : decode cX11_stretch 144 = .ok (.ifCond .eq 7, 3) := by decide +kernel
theorem dX11_stretch_147 : decode cX11_stretch 147 = .ok (.iconst 0, 1) := by decide +kernel
theorem dX11_stretch_148 : decode cX11_stretch 148 = .ok (.goto 18, 3) := by decide +kernel
theorem dX11_stretch_151 : decode cX11_stretch 151 = .ok (.aload_n 0, 1) := by decide +kernel
theorem dX11_stretch_152 : decode cX11_stretch 152 = .ok (.getfield 42, 3) := by decide +kernel
theorem dX11_stretch_155 : decode cX11_stretch 155 = .ok (.getfield 84, 3) := by decide +kernel
theorem dX11_stretch_158 : decode cX11_stretch 158 = .ok (.aload_n 0, 1) := by decide +kernel
theorem dX11_stretch_159 : decode cX11_stretch 159 = .ok (.getfield 32, 3) := by decide +kernel
theorem dX11_stretch_162 : decode cX11_stretch 162 = .ok (.iload_n 1, 1) := by decide +kernel
theorem dX11_stretch_163 : decode cX11_stretch 163 = .ok (.invokevirtual 202, 3) := by decide +kernel
theorem dX11_stretch_166 : decode cX11_stretch 166 = .ok (.ireturn, 1) := by decide +kernel
theorem dX11_stretch_167 : decode cX11_stretch 167 = .ok (.new 174, 3) := by decide +kernel
theorem dX11_stretch_170 : decode cX11_stretch 170 = .ok (.dup, 1) := by decide +kernel
theorem dX11_stretch_171 : decode cX11_stretch 171 = .ok (.ldc 205, 2) := by decide +kernel
theorem dX11_stretch_173 : decode cX11_stretch 173 = .ok (.invokespecial 178, 3) := by decide +kernel
theorem dX11_stretch_176 : decode cX11_stretch 176 = .ok (.athrow, 1) := by decide +kernel
theorem dX11_woman_0 : decode cX11_woman 0 = .ok (.aload_n 0, 1) := by decide +kernel
theorem dX11_woman_1 : decode cX11_woman 1 = .ok (.iload_n 1, 1) := by decide +kernel
theorem dX11_woman_2 : decode cX11_woman 2 = .ok (.invokevirtual 207, 3) := by decide +kernel
theorem dX11_woman_5 : decode cX11_woman 5 = .ok (.iload_n 2, 1) := by decide +kernel
theorem dX11_woman_6 : decode cX11_woman 6 = .ok (.tableswitch 62 0 2 #[26, 36, 49], 26) := by decide +kernel
theorem dX11_woman_32 : decode cX11_woman 32 = .ok (.aload_n 0, 1) := by decide +kernel
theorem dX11_woman_33 : decode cX11_woman 33 = .ok (.getfield 32, 3) := by decide +kernel
theorem dX11_woman_36 : decode cX11_woman 36 = .ok (.getfield 210, 3) := by decide +kernel
theorem dX11_woman_39 : decode cX11_woman 39 = .ok (.iload_n 1, 1) := by decide +kernel
theorem dX11_woman_40 : decode cX11_woman 40 = .ok (.iaload, 1) := by decide +kernel
theorem dX11_woman_41 : decode cX11_woman 41 = .ok (.ireturn, 1) := by decide +kernel
theorem dX11_woman_42 : decode cX11_woman 42 = .ok (.aload_n 0, 1) := by decide +kernel
theorem dX11_woman_43 : decode cX11_woman 43 = .ok (.getfield 42, 3) := by decide +kernel
theorem dX11_woman_46 : decode cX11_woman 46 = .ok (.getfield 84, 3) := by decide +kernel
theorem dX11_woman_49 : decode cX11_woman 49 = .ok (.getfield 213, 3) := by decide +kernel
theorem dX11_woman_52 : decode cX11_woman 52 = .ok (.iload_n 1, 1) := by decide +kernel
theorem dX11_woman_53 : decode cX11_woman 53 = .ok (.iaload, 1) := by decide +kernel
theorem dX11_woman_54 : decode cX11_woman 54 = .ok (.ireturn, 1) := by decide +kernel
theorem dX11_woman_55 : decode cX11_woman 55 = .ok (.aload_n 0, 1) := by decide +kernel
theorem dX11_woman_56 : decode cX11_woman 56 = .ok (.getfield 42, 3) := by decide +kernel
theorem dX11_woman_59 : decode cX11_woman 59 = .ok (.getfield 84, 3) := by decide +kernel
theorem dX11_woman_62 : decode cX11_woman 62 = .ok (.getfield 216, 3) := by decide +kernel
theorem dX11_woman_65 : decode cX11_woman 65 = .ok (.iload_n 1, 1) := by decide +kernel
theorem dX11_woman_66 : decode cX11_woman 66 = .ok (.iaload, 1) := by decide +kernel
theorem dX11_woman_67 : decode cX11_woman 67 = .ok (.ireturn, 1) := by decide +kernel
theorem dX11_woman_68 : decode cX11_woman 68 = .ok (.new 174, 3) := by decide +kernel
theorem dX11_woman_71 : decode cX11_woman 71 = .ok (.dup, 1) := by decide +kernel
theorem dX11_woman_72 : decode cX11_woman 72 = .ok (.ldc 219, 2) := by decide +kernel
theorem dX11_woman_74 : decode cX11_woman 74 = .ok (.invokespecial 178, 3) := by decide +kernel
theorem dX11_woman_77 : decode cX11_woman 77 = .ok (.athrow, 1) := by decide +kernel
theorem dX11_days_0 : decode cX11_days 0 = .ok (.iload_n 1, 1) := by decide +kernel
theorem dX11_days_1 : decode cX11_days 1 = .ok (.iconst 1, 1) := by decide +kernel
theorem dX11_days_2 : decode cX11_days 2 = .ok (.if_icmp .lt 27, 3) := by decide +kernel
theorem dX11_days_5 : decode cX11_days 5 = .ok (.iload_n 1, 1) := by decide +kernel
theorem dX11_days_6 : decode cX11_days 6 = .ok (.bipush 20, 2) := by decide +kernel
theorem dX11_days_8 : decode cX11_days 8 = .ok (.if_icmp .gt 21, 3) := by decide +kernel
theorem dX11_days_11 : decode cX11_days 11 = .ok (.aload_n 0, 1) := by decide +kernel
theorem dX11_days_12 : decode cX11_days 12 = .ok (.getfield 42, 3) := by decide +kernel
theorem dX11_days_15 : decode cX11_days 15 = .ok (.getfield 84, 3) := by decide +kernel
theorem dX11_days_18 : decode cX11_days 18 = .ok (.getfield 105, 3) := by decide +kernel
theorem dX11_days_21 : decode cX11_days 21 = .ok (.iload_n 1, 1) := by decide +kernel
theorem dX11_days_22 : decode cX11_days 22 = .ok (.iadd, 1) := by decide +kernel
theorem dX11_days_23 : decode cX11_days 23 = .ok (.sipush 999, 3) := by decide +kernel
theorem dX11_days_26 : decode cX11_days 26 = .ok (.if_icmp .le 8, 3) := by decide +kernel
theorem dX11_days_29 : decode cX11_days 29 = .ok (.aload_n 0, 1) := by decide +kernel
theorem dX11_days_30 : decode cX11_days 30 = .ok (.invokevirtual 221, 3) := by decide +kernel
theorem dX11_days_33 : decode cX11_days 33 = .ok (.ireturn, 1) := by decide +kernel
theorem dX11_days_34 : decode cX11_days 34 = .ok (.aload_n 0, 1) := by decide +kernel
theorem dX11_days_35 : decode cX11_days 35 = .ok (.getfield 42, 3) := by decide +kernel
theorem dX11_days_38 : decode cX11_days 38 = .ok (.getfield 127, 3) := by decide +kernel
theorem dX11_days_41 : decode cX11_days 41 = .ok (.aload_n 0, 1) := by decide +kernel
theorem dX11_days_42 : decode cX11_days 42 = .ok (.getfield 42, 3) := by decide +kernel
theorem dX11_days_45 : decode cX11_days 45 = .ok (.getfield 84, 3) := by decide +kernel
theorem dX11_days_48 : decode cX11_days 48 = .ok (.invokevirtual 225, 3) := by decide +kernel
theorem dX11_days_51 : decode cX11_days 51 = .ok (.aload_n 0, 1) := by decide +kernel
theorem dX11_days_52 : decode cX11_days 52 = .ok (.getfield 42, 3) := by decide +kernel
theorem dX11_days_55 : decode cX11_days 55 = .ok (.getfield 84, 3) := by decide +kernel
theorem dX11_days_58 : decode cX11_days 58 = .ok (.aload_n 0, 1) := by decide +kernel
theorem dX11_days_59 : decode cX11_days 59 = .ok (.getfield 32, 3) := by decide +kernel
theorem dX11_days_62 : decode cX11_days 62 = .ok (.iload_n 1, 1) := by decide +kernel
theorem dX11_days_63 : decode cX11_days 63 = .ok (.invokevirtual 228, 3) := by decide +kernel
theorem dX11_days_66 : decode cX11_days 66 = .ok (.aload_n 0, 1) := by decide +kernel
theorem dX11_days_67 : decode cX11_days 67 = .ok (.getfield 42, 3) := by decide +kernel
theorem dX11_days_70 : decode cX11_days 70 = .ok (.getfield 84, 3) := by decide +kernel
theorem dX11_days_73 : decode cX11_days 73 = .ok (.getfield 105, 3) := by decide +kernel
theorem dX11_days_76 : decode cX11_days 76 = .ok (.ireturn, 1) := by decide +kernel
theorem dX11_mend_0 : decode cX11_mend 0 = .ok (.aload_n 0, 1) := by decide +kernel
theorem dX11_mend_1 : decode cX11_mend 1 = .ok (.iload_n 1, 1) := by decide +kernel
theorem dX11_mend_2 : decode cX11_mend 2 = .ok (.invokevirtual 207, 3) := by decide +kernel
theorem dX11_mend_5 : decode cX11_mend 5 = .ok (.aload_n 0, 1) := by decide +kernel
theorem dX11_mend_6 : decode cX11_mend 6 = .ok (.getfield 42, 3) := by decide +kernel
theorem dX11_mend_9 : decode cX11_mend 9 = .ok (.getfield 84, 3) := by decide +kernel
theorem dX11_mend_12 : decode cX11_mend 12 = .ok (.getfield 216, 3) := by decide +kernel
theorem dX11_mend_15 : decode cX11_mend 15 = .ok (.iload_n 1, 1) := by decide +kernel
theorem dX11_mend_16 : decode cX11_mend 16 = .ok (.iaload, 1) := by decide +kernel
theorem dX11_mend_17 : decode cX11_mend 17 = .ok (.iconst 1, 1) := by decide +kernel
theorem dX11_mend_18 : decode cX11_mend 18 = .ok (.if_icmp .ge 8, 3) := by decide +kernel
theorem dX11_mend_21 : decode cX11_mend 21 = .ok (.aload_n 0, 1) := by decide +kernel
theorem dX11_mend_22 : decode cX11_mend 22 = .ok (.invokevirtual 221, 3) := by decide +kernel
theorem dX11_mend_25 : decode cX11_mend 25 = .ok (.ireturn, 1) := by decide +kernel
theorem dX11_mend_26 : decode cX11_mend 26 = .ok (.aload_n 0, 1) := by decide +kernel
theorem dX11_mend_27 : decode cX11_mend 27 = .ok (.getfield 42, 3) := by decide +kernel
theorem dX11_mend_30 : decode cX11_mend 30 = .ok (.getfield 127, 3) := by decide +kernel
theorem dX11_mend_33 : decode cX11_mend 33 = .ok (.aload_n 0, 1) := by decide +kernel
theorem dX11_mend_34 : decode cX11_mend 34 = .ok (.getfield 42, 3) := by decide +kernel
theorem dX11_mend_37 : decode cX11_mend 37 = .ok (.getfield 84, 3) := by decide +kernel
theorem dX11_mend_40 : decode cX11_mend 40 = .ok (.invokevirtual 225, 3) := by decide +kernel
theorem dX11_mend_43 : decode cX11_mend 43 = .ok (.aload_n 0, 1) := by decide +kernel
theorem dX11_mend_44 : decode cX11_mend 44 = .ok (.getfield 42, 3) := by decide +kernel
theorem dX11_mend_47 : decode cX11_mend 47 = .ok (.getfield 84, 3) := by decide +kernel
theorem dX11_mend_50 : decode cX11_mend 50 = .ok (.aload_n 0, 1) := by decide +kernel
theorem dX11_mend_51 : decode cX11_mend 51 = .ok (.getfield 32, 3) := by decide +kernel
theorem dX11_mend_54 : decode cX11_mend 54 = .ok (.iload_n 1, 1) := by decide +kernel
theorem dX11_mend_55 : decode cX11_mend 55 = .ok (.invokevirtual 232, 3) := by decide +kernel
theorem dX11_mend_58 : decode cX11_mend 58 = .ok (.aload_n 0, 1) := by decide +kernel
theorem dX11_mend_59 : decode cX11_mend 59 = .ok (.getfield 42, 3) := by decide +kernel
theorem dX11_mend_62 : decode cX11_mend 62 = .ok (.getfield 84, 3) := by decide +kernel
theorem dX11_mend_65 : decode cX11_mend 65 = .ok (.iload_n 1, 1) := by decide +kernel
theorem dX11_mend_66 : decode cX11_mend 66 = .ok (.invokevirtual 235, 3) := by decide +kernel
theorem dX11_mend_69 : decode cX11_mend 69 = .ok (.ireturn, 1) := by decide +kernel
theorem dX11_go_0 : decode cX11_go 0 = .ok (.aload_n 0, 1) := by decide +kernel
theorem dX11_go_1 : decode cX11_go 1 = .ok (.iload_n 1, 1) := by decide +kernel
theorem dX11_go_2 : decode cX11_go 2 = .ok (.invokevirtual 207, 3) := by decide +kernel
theorem dX11_go_5 : decode cX11_go 5 = .ok (.aload_n 0, 1) := by decide +kernel
theorem dX11_go_6 : decode cX11_go 6 = .ok (.iload_n 2, 1) := by decide +kernel
theorem dX11_go_7 : decode cX11_go 7 = .ok (.invokevirtual 179, 3) := by decide +kernel
theorem dX11_go_10 : decode cX11_go 10 = .ok (.aload_n 0, 1) := by decide +kernel
theorem dX11_go_11 : decode cX11_go 11 = .ok (.getfield 42, 3) := by decide +kernel
theorem dX11_go_14 : decode cX11_go 14 = .ok (.getfield 84, 3) := by decide +kernel
theorem dX11_go_17 : decode cX11_go 17 = .ok (.getfield 213, 3) := by decide +kernel
theorem dX11_go_20 : decode cX11_go 20 = .ok (.iload_n 1, 1) := by decide +kernel
theorem dX11_go_21 : decode cX11_go 21 = .ok (.iaload, 1) := by decide +kernel
theorem dX11_go_22 : decode cX11_go 22 = .ok (.istore_n 3, 1) := by decide +kernel
theorem dX11_go_23 : decode cX11_go 23 = .ok (.iload_n 3, 1) := by decide +kernel
theorem dX11_go_24 : decode cX11_go 24 = .ok (.iload_n 2, 1) := by decide +kernel
theorem dX11_go_25 : decode cX11_go 25 = .ok (.if_icmp .ne 8, 3) := by decide +kernel
theorem dX11_go_28 : decode cX11_go 28 = .ok (.aload_n 0, 1) := by decide +kernel
theorem dX11_go_29 : decode cX11_go 29 = .ok (.invokevirtual 221, 3) := by decide +kernel
theorem dX11_go_32 : decode cX11_go 32 = .ok (.ireturn, 1) := by decide +kernel
theorem dX11_go_33 : decode cX11_go 33 = .ok (.aload_n 0, 1) := by decide +kernel
theorem dX11_go_34 : decode cX11_go 34 = .ok (.getfield 42, 3) := by decide +kernel
theorem dX11_go_37 : decode cX11_go 37 = .ok (.getfield 127, 3) := by decide +kernel
theorem dX11_go_40 : decode cX11_go 40 = .ok (.aload_n 0, 1) := by decide +kernel
theorem dX11_go_41 : decode cX11_go 41 = .ok (.getfield 42, 3) := by decide +kernel
theorem dX11_go_44 : decode cX11_go 44 = .ok (.getfield 84, 3) := by decide +kernel
theorem dX11_go_47 : decode cX11_go 47 = .ok (.invokevirtual 225, 3) := by decide +kernel
theorem dX11_go_50 : decode cX11_go 50 = .ok (.aload_n 0, 1) := by decide +kernel
theorem dX11_go_51 : decode cX11_go 51 = .ok (.getfield 42, 3) := by decide +kernel
theorem dX11_go_54 : decode cX11_go 54 = .ok (.getfield 84, 3) := by decide +kernel
theorem dX11_go_57 : decode cX11_go 57 = .ok (.getfield 213, 3) := by decide +kernel
theorem dX11_go_60 : decode cX11_go 60 = .ok (.iload_n 1, 1) := by decide +kernel
theorem dX11_go_61 : decode cX11_go 61 = .ok (.iload_n 2, 1) := by decide +kernel
theorem dX11_go_62 : decode cX11_go 62 = .ok (.iastore, 1) := by decide +kernel
theorem dX11_go_63 : decode cX11_go 63 = .ok (.iload_n 3, 1) := by decide +kernel
theorem dX11_go_64 : decode cX11_go 64 = .ok (.ireturn, 1) := by decide +kernel
theorem dX11_stitch_0 : decode cX11_stitch 0 = .ok (.aload_n 0, 1) := by decide +kernel
theorem dX11_stitch_1 : decode cX11_stitch 1 = .ok (.iload_n 1, 1) := by decide +kernel
theorem dX11_stitch_2 : decode cX11_stitch 2 = .ok (.invokevirtual 179, 3) := by decide +kernel
theorem dX11_stitch_5 : decode cX11_stitch 5 = .ok (.aload_n 0, 1) := by decide +kernel
theorem dX11_stitch_6 : decode cX11_stitch 6 = .ok (.getfield 42, 3) := by decide +kernel
theorem dX11_stitch_9 : decode cX11_stitch 9 = .ok (.getfield 84, 3) := by decide +kernel
theorem dX11_stitch_12 : decode cX11_stitch 12 = .ok (.getfield 188, 3) := by decide +kernel
theorem dX11_stitch_15 : decode cX11_stitch 15 = .ok (.iload_n 1, 1) := by decide +kernel
theorem dX11_stitch_16 : decode cX11_stitch 16 = .ok (.iaload, 1) := by decide +kernel
theorem dX11_stitch_17 : decode cX11_stitch 17 = .ok (.istore_n 3, 1) := by decide +kernel
theorem dX11_stitch_18 : decode cX11_stitch 18 = .ok (.iload_n 2, 1) := by decide +kernel
theorem dX11_stitch_19 : decode cX11_stitch 19 = .ok (.ifCond .lt 13, 3) := by decide +kernel
theorem dX11_stitch_22 : decode cX11_stitch 22 = .ok (.iload_n 2, 1) := by decide +kernel
theorem dX11_stitch_23 : decode cX11_stitch 23 = .ok (.iconst 2, 1) := by decide +kernel
theorem dX11_stitch_24 : decode cX11_stitch 24 = .ok (.if_icmp .gt 8, 3) := by decide +kernel
theorem dX11_stitch_27 : decode cX11_stitch 27 = .ok (.iload_n 2, 1) := by decide +kernel
theorem dX11_stitch_28 : decode cX11_stitch 28 = .ok (.iload_n 3, 1) := by decide +kernel
theorem dX11_stitch_29 : decode cX11_stitch 29 = .ok (.if_icmp .ne 8, 3) := by decide +kernel
theorem dX11_stitch_32 : decode cX11_stitch 32 = .ok (.aload_n 0, 1) := by decide +kernel
theorem dX11_stitch_33 : decode cX11_stitch 33 = .ok (.invokevirtual 221, 3) := by decide +kernel
theorem dX11_stitch_36 : decode cX11_stitch 36 = .ok (.ireturn, 1) := by decide +kernel
theorem dX11_stitch_37 : decode cX11_stitch 37 = .ok (.aload_n 0, 1) := by decide +kernel
theorem dX11_stitch_38 : decode cX11_stitch 38 = .ok (.getfield 42, 3) := by decide +kernel
theorem dX11_stitch_41 : decode cX11_stitch 41 = .ok (.getfield 127, 3) := by decide +kernel
theorem dX11_stitch_44 : decode cX11_stitch 44 = .ok (.aload_n 0, 1) := by decide +kernel
theorem dX11_stitch_45 : decode cX11_stitch 45 = .ok (.getfield 42, 3) := by decide +kernel
theorem dX11_stitch_48 : decode cX11_stitch 48 = .ok (.getfield 84, 3) := by decide +kernel
theorem dX11_stitch_51 : decode cX11_stitch 51 = .ok (.invokevirtual 225, 3) := by decide +kernel
theorem dX11_stitch_54 : decode cX11_stitch 54 = .ok (.aload_n 0, 1) := by decide +kernel
theorem dX11_stitch_55 : decode cX11_stitch 55 = .ok (.getfield 42, 3) := by decide +kernel
theorem dX11_stitch_58 : decode cX11_stitch 58 = .ok (.getfield 84, 3) := by decide +kernel
theorem dX11_stitch_61 : decode cX11_stitch 61 = .ok (.getfield 188, 3) := by decide +kernel
theorem dX11_stitch_64 : decode cX11_stitch 64 = .ok (.iload_n 1, 1) := by decide +kernel
theorem dX11_stitch_65 : decode cX11_stitch 65 = .ok (.iload_n 2, 1) := by decide +kernel
theorem dX11_stitch_66 : decode cX11_stitch 66 = .ok (.iastore, 1) := by decide +kernel
theorem dX11_stitch_67 : decode cX11_stitch 67 = .ok (.iload_n 3, 1) := by decide +kernel
theorem dX11_stitch_68 : decode cX11_stitch 68 = .ok (.ireturn, 1) := by decide +kernel
theorem dX11_thread_0 : decode cX11_thread 0 = .ok (.aload_n 0, 1) := by decide +kernel
theorem dX11_thread_1 : decode cX11_thread 1 = .ok (.iload_n 1, 1) := by decide +kernel
theorem dX11_thread_2 : decode cX11_thread 2 = .ok (.invokevirtual 207, 3) := by decide +kernel
theorem dX11_thread_5 : decode cX11_thread 5 = .ok (.iload_n 2, 1) := by decide +kernel
theorem dX11_thread_6 : decode cX11_thread 6 = .ok (.iconst 1, 1) := by decide +kernel
theorem dX11_thread_7 : decode cX11_thread 7 = .ok (.if_icmp .lt 9, 3) := by decide +kernel
theorem dX11_thread_10 : decode cX11_thread 10 = .ok (.iload_n 2, 1) := by decide +kernel
theorem dX11_thread_11 : decode cX11_thread 11 = .ok (.bipush 50, 2) := by decide +kernel
theorem dX11_thread_13 : decode cX11_thread 13 = .ok (.if_icmp .le 8, 3) := by decide +kernel
theorem dX11_thread_16 : decode cX11_thread 16 = .ok (.aload_n 0, 1) := by decide +kernel
theorem dX11_thread_17 : decode cX11_thread 17 = .ok (.invokevirtual 221, 3) := by decide +kernel
theorem dX11_thread_20 : decode cX11_thread 20 = .ok (.ireturn, 1) := by decide +kernel
theorem dX11_thread_21 : decode cX11_thread 21 = .ok (.aload_n 0, 1) := by decide +kernel
theorem dX11_thread_22 : decode cX11_thread 22 = .ok (.getfield 42, 3) := by decide +kernel
theorem dX11_thread_25 : decode cX11_thread 25 = .ok (.getfield 127, 3) := by decide +kernel
theorem dX11_thread_28 : decode cX11_thread 28 = .ok (.aload_n 0, 1) := by decide +kernel
theorem dX11_thread_29 : decode cX11_thread 29 = .ok (.getfield 42, 3) := by decide +kernel
theorem dX11_thread_32 : decode cX11_thread 32 = .ok (.getfield 84, 3) := by decide +kernel
theorem dX11_thread_35 : decode cX11_thread 35 = .ok (.invokevirtual 225, 3) := by decide +kernel
theorem dX11_thread_38 : decode cX11_thread 38 = .ok (.aload_n 0, 1) := by decide +kernel
theorem dX11_thread_39 : decode cX11_thread 39 = .ok (.getfield 42, 3) := by decide +kernel
theorem dX11_thread_42 : decode cX11_thread 42 = .ok (.getfield 84, 3) := by decide +kernel
theorem dX11_thread_45 : decode cX11_thread 45 = .ok (.iload_n 1, 1) := by decide +kernel
theorem dX11_thread_46 : decode cX11_thread 46 = .ok (.iload_n 2, 1) := by decide +kernel
theorem dX11_thread_47 : decode cX11_thread 47 = .ok (.invokevirtual 239, 3) := by decide +kernel
theorem dX11_thread_50 : decode cX11_thread 50 = .ok (.aload_n 0, 1) := by decide +kernel
theorem dX11_thread_51 : decode cX11_thread 51 = .ok (.getfield 42, 3) := by decide +kernel
theorem dX11_thread_54 : decode cX11_thread 54 = .ok (.getfield 84, 3) := by decide +kernel
theorem dX11_thread_57 : decode cX11_thread 57 = .ok (.getfield 216, 3) := by decide +kernel
theorem dX11_thread_60 : decode cX11_thread 60 = .ok (.iload_n 1, 1) := by decide +kernel
theorem dX11_thread_61 : decode cX11_thread 61 = .ok (.iaload, 1) := by decide +kernel
theorem dX11_thread_62 : decode cX11_thread 62 = .ok (.ireturn, 1) := by decide +kernel
theorem dX11_tear_0 : decode cX11_tear 0 = .ok (.aload_n 0, 1) := by decide +kernel
theorem dX11_tear_1 : decode cX11_tear 1 = .ok (.iload_n 1, 1) := by decide +kernel
theorem dX11_tear_2 : decode cX11_tear 2 = .ok (.invokevirtual 179, 3) := by decide +kernel
theorem dX11_tear_5 : decode cX11_tear 5 = .ok (.iload_n 2, 1) := by decide +kernel
theorem dX11_tear_6 : decode cX11_tear 6 = .ok (.iconst 1, 1) := by decide +kernel
theorem dX11_tear_7 : decode cX11_tear 7 = .ok (.if_icmp .lt 23, 3) := by decide +kernel
theorem dX11_tear_10 : decode cX11_tear 10 = .ok (.iload_n 2, 1) := by decide +kernel
theorem dX11_tear_11 : decode cX11_tear 11 = .ok (.bipush 50, 2) := by decide +kernel
theorem dX11_tear_13 : decode cX11_tear 13 = .ok (.if_icmp .gt 17, 3) := by decide +kernel
theorem dX11_tear_16 : decode cX11_tear 16 = .ok (.aload_n 0, 1) := by decide +kernel
theorem dX11_tear_17 : decode cX11_tear 17 = .ok (.getfield 42, 3) := by decide +kernel
theorem dX11_tear_20 : decode cX11_tear 20 = .ok (.getfield 84, 3) := by decide +kernel
theorem dX11_tear_23 : decode cX11_tear 23 = .ok (.iload_n 1, 1) := by decide +kernel
theorem dX11_tear_24 : decode cX11_tear 24 = .ok (.invokevirtual 195, 3) := by decide +kernel
theorem dX11_tear_27 : decode cX11_tear 27 = .ok (.ifCond .eq 8, 3) := by decide +kernel
theorem dX11_tear_30 : decode cX11_tear 30 = .ok (.aload_n 0, 1) := by decide +kernel
theorem dX11_tear_31 : decode cX11_tear 31 = .ok (.invokevirtual 221, 3) := by decide +kernel
theorem dX11_tear_34 : decode cX11_tear 34 = .ok (.ireturn, 1) := by decide +kernel
theorem dX11_tear_35 : decode cX11_tear 35 = .ok (.aload_n 0, 1) := by decide +kernel
theorem dX11_tear_36 : decode cX11_tear 36 = .ok (.getfield 42, 3) := by decide +kernel
theorem dX11_tear_39 : decode cX11_tear 39 = .ok (.getfield 127, 3) := by decide +kernel
theorem dX11_tear_42 : decode cX11_tear 42 = .ok (.aload_n 0, 1) := by decide +kernel
theorem dX11_tear_43 : decode cX11_tear 43 = .ok (.getfield 42, 3) := by decide +kernel
theorem dX11_tear_46 : decode cX11_tear 46 = .ok (.getfield 84, 3) := by decide +kernel
theorem dX11_tear_49 : decode cX11_tear 49 = .ok (.invokevirtual 225, 3) := by decide +kernel
theorem dX11_tear_52 : decode cX11_tear 52 = .ok (.aload_n 0, 1) := by decide +kernel
theorem dX11_tear_53 : decode cX11_tear 53 = .ok (.getfield 42, 3) := by decide +kernel
theorem dX11_tear_56 : decode cX11_tear 56 = .ok (.getfield 84, 3) := by decide +kernel
theorem dX11_tear_59 : decode cX11_tear 59 = .ok (.aload_n 0, 1) := by decide +kernel
theorem dX11_tear_60 : decode cX11_tear 60 = .ok (.getfield 32, 3) := by decide +kernel
theorem dX11_tear_63 : decode cX11_tear 63 = .ok (.iload_n 1, 1) := by decide +kernel
theorem dX11_tear_64 : decode cX11_tear 64 = .ok (.iload_n 2, 1) := by decide +kernel
theorem dX11_tear_65 : decode cX11_tear 65 = .ok (.invokevirtual 243, 3) := by decide +kernel
theorem dX11_tear_68 : decode cX11_tear 68 = .ok (.aload_n 0, 1) := by decide +kernel
theorem dX11_tear_69 : decode cX11_tear 69 = .ok (.getfield 42, 3) := by decide +kernel
theorem dX11_tear_72 : decode cX11_tear 72 = .ok (.getfield 84, 3) := by decide +kernel
theorem dX11_tear_75 : decode cX11_tear 75 = .ok (.getfield 185, 3) := by decide +kernel
theorem dX11_tear_78 : decode cX11_tear 78 = .ok (.iload_n 1, 1) := by decide +kernel
theorem dX11_tear_79 : decode cX11_tear 79 = .ok (.iaload, 1) := by decide +kernel
theorem dX11_tear_80 : decode cX11_tear 80 = .ok (.ireturn, 1) := by decide +kernel
theorem dX11_undo_0 : decode cX11_undo 0 = .ok (.aload_n 0, 1) := by decide +kernel
theorem dX11_undo_1 : decode cX11_undo 1 = .ok (.getfield 42, 3) := by decide +kernel
theorem dX11_undo_4 : decode cX11_undo 4 = .ok (.getfield 127, 3) := by decide +kernel
theorem dX11_undo_7 : decode cX11_undo 7 = .ok (.getfield 172, 3) := by decide +kernel
theorem dX11_undo_10 : decode cX11_undo 10 = .ok (.iconst 1, 1) := by decide +kernel
theorem dX11_undo_11 : decode cX11_undo 11 = .ok (.if_icmp .ge 5, 3) := by decide +kernel
theorem dX11_undo_14 : decode cX11_undo 14 = .ok (.iconst (-1), 1) := by decide +kernel
theorem dX11_undo_15 : decode cX11_undo 15 = .ok (.ireturn, 1) := by decide +kernel
theorem dX11_undo_16 : decode cX11_undo 16 = .ok (.aload_n 0, 1) := by decide +kernel
theorem dX11_undo_17 : decode cX11_undo 17 = .ok (.getfield 42, 3) := by decide +kernel
theorem dX11_undo_20 : decode cX11_undo 20 = .ok (.getfield 127, 3) := by decide +kernel
theorem dX11_undo_23 : decode cX11_undo 23 = .ok (.aload_n 0, 1) := by decide +kernel
theorem dX11_undo_24 : decode cX11_undo 24 = .ok (.getfield 42, 3) := by decide +kernel
theorem dX11_undo_27 : decode cX11_undo 27 = .ok (.getfield 84, 3) := by decide +kernel
theorem dX11_undo_30 : decode cX11_undo 30 = .ok (.invokevirtual 247, 3) := by decide +kernel
theorem dX11_undo_33 : decode cX11_undo 33 = .ok (.aload_n 0, 1) := by decide +kernel
theorem dX11_undo_34 : decode cX11_undo 34 = .ok (.getfield 42, 3) := by decide +kernel
theorem dX11_undo_37 : decode cX11_undo 37 = .ok (.getfield 127, 3) := by decide +kernel
theorem dX11_undo_40 : decode cX11_undo 40 = .ok (.getfield 172, 3) := by decide +kernel
theorem dX11_undo_43 : decode cX11_undo 43 = .ok (.ireturn, 1) := by decide +kernel
theorem dX11_refuseAct_0 : decode cX11_refuseAct 0 = .ok (.aload_n 0, 1) := by decide +kernel
theorem dX11_refuseAct_1 : decode cX11_refuseAct 1 = .ok (.dup, 1) := by decide +kernel
theorem dX11_refuseAct_2 : decode cX11_refuseAct 2 = .ok (.getfield 23, 3) := by decide +kernel
theorem dX11_refuseAct_5 : decode cX11_refuseAct 5 = .ok (.iconst 1, 1) := by decide +kernel
theorem dX11_refuseAct_6 : decode cX11_refuseAct 6 = .ok (.iadd, 1) := by decide +kernel
theorem dX11_refuseAct_7 : decode cX11_refuseAct 7 = .ok (.putfield 23, 3) := by decide +kernel
theorem dX11_refuseAct_10 : decode cX11_refuseAct 10 = .ok (.iconst (-1), 1) := by decide +kernel
theorem dX11_refuseAct_11 : decode cX11_refuseAct 11 = .ok (.ireturn, 1) := by decide +kernel
theorem dX11_then_0 : decode cX11_then 0 = .ok (.aload_n 0, 1) := by decide +kernel
theorem dX11_then_1 : decode cX11_then 1 = .ok (.iload_n 1, 1) := by decide +kernel
theorem dX11_then_2 : decode cX11_then 2 = .ok (.invokevirtual 179, 3) := by decide +kernel
theorem dX11_then_5 : decode cX11_then 5 = .ok (.iload_n 3, 1) := by decide +kernel
theorem dX11_then_6 : decode cX11_then 6 = .ok (.iconst 1, 1) := by decide +kernel
theorem dX11_then_7 : decode cX11_then 7 = .ok (.invokestatic 250, 3) := by decide +kernel
theorem dX11_then_10 : decode cX11_then 10 = .ok (.iload_n 2, 1) := by decide +kernel
theorem dX11_then_11 : decode cX11_then 11 = .ok (.iconst 0, 1) := by decide +kernel
theorem dX11_then_12 : decode cX11_then 12 = .ok (.invokestatic 253, 3) := by decide +kernel
theorem dX11_then_15 : decode cX11_then 15 = .ok (.aload_n 0, 1) := by decide +kernel
theorem dX11_then_16 : decode cX11_then 16 = .ok (.iload_n 2, 1) := by decide +kernel
theorem dX11_then_17 : decode cX11_then 17 = .ok (.invokevirtual 256, 3) := by decide +kernel
theorem dX11_then_20 : decode cX11_then 20 = .ok (.iload_n 3, 1) := by decide +kernel
theorem dX11_then_21 : decode cX11_then 21 = .ok (.ifCond .ne 15, 3) := by decide +kernel
theorem dX11_then_24 : decode cX11_then 24 = .ok (.aload_n 0, 1) := by decide +kernel
theorem dX11_then_25 : decode cX11_then 25 = .ok (.getfield 56, 3) := by decide +kernel
theorem dX11_then_28 : decode cX11_then 28 = .ok (.getfield 182, 3) := by decide +kernel
theorem dX11_then_31 : decode cX11_then 31 = .ok (.iload_n 1, 1) := by decide +kernel
theorem dX11_then_32 : decode cX11_then 32 = .ok (.iaload, 1) := by decide +kernel
theorem dX11_then_33 : decode cX11_then 33 = .ok (.goto 12, 3) := by decide +kernel
theorem dX11_then_36 : decode cX11_then 36 = .ok (.aload_n 0, 1) := by decide +kernel
theorem dX11_then_37 : decode cX11_then 37 = .ok (.getfield 56, 3) := by decide +kernel
theorem dX11_then_40 : decode cX11_then 40 = .ok (.getfield 185, 3) := by decide +kernel
theorem dX11_then_43 : decode cX11_then 43 = .ok (.iload_n 1, 1) := by decide +kernel
theorem dX11_then_44 : decode cX11_then 44 = .ok (.iaload, 1) := by decide +kernel
theorem dX11_then_45 : decode cX11_then 45 = .ok (.ireturn, 1) := by decide +kernel
theorem dX11_later_0 : decode cX11_later 0 = .ok (.iload_n 2, 1) := by decide +kernel
theorem dX11_later_1 : decode cX11_later 1 = .ok (.iconst 3, 1) := by decide +kernel
theorem dX11_later_2 : decode cX11_later 2 = .ok (.invokestatic 250, 3) := by decide +kernel
theorem dX11_later_5 : decode cX11_later 5 = .ok (.iload_n 1, 1) := by decide +kernel
theorem dX11_later_6 : decode cX11_later 6 = .ok (.iconst 0, 1) := by decide +kernel
theorem dX11_later_7 : decode cX11_later 7 = .ok (.invokestatic 253, 3) := by decide +kernel
theorem dX11_later_10 : decode cX11_later 10 = .ok (.aload_n 0, 1) := by decide +kernel
theorem dX11_later_11 : decode cX11_later 11 = .ok (.iload_n 1, 1) := by decide +kernel
theorem dX11_later_12 : decode cX11_later 12 = .ok (.invokevirtual 256, 3) := by decide +kernel
theorem dX11_later_15 : decode cX11_later 15 = .ok (.iload_n 2, 1) := by decide +kernel
theorem dX11_later_16 : decode cX11_later 16 = .ok (.tableswitch 76 0 2 #[28, 40, 52], 28) := by decide +kernel
theorem dX11_later_44 : decode cX11_later 44 = .ok (.aload_n 0, 1) := by decide +kernel
theorem dX11_later_45 : decode cX11_later 45 = .ok (.getfield 56, 3) := by decide +kernel
theorem dX11_later_48 : decode cX11_later 48 = .ok (.aload_n 0, 1) := by decide +kernel
theorem dX11_later_49 : decode cX11_later 49 = .ok (.getfield 32, 3) := by decide +kernel
theorem dX11_later_52 : decode cX11_later 52 = .ok (.invokevirtual 159, 3) := by decide +kernel
theorem dX11_later_55 : decode cX11_later 55 = .ok (.ireturn, 1) := by decide +kernel
theorem dX11_later_56 : decode cX11_later 56 = .ok (.aload_n 0, 1) := by decide +kernel
theorem dX11_later_57 : decode cX11_later 57 = .ok (.getfield 56, 3) := by decide +kernel
theorem dX11_later_60 : decode cX11_later 60 = .ok (.aload_n 0, 1) := by decide +kernel
theorem dX11_later_61 : decode cX11_later 61 = .ok (.getfield 32, 3) := by decide +kernel
theorem dX11_later_64 : decode cX11_later 64 = .ok (.invokevirtual 259, 3) := by decide +kernel
theorem dX11_later_67 : decode cX11_later 67 = .ok (.ireturn, 1) := by decide +kernel
theorem dX11_later_68 : decode cX11_later 68 = .ok (.aload_n 0, 1) := by decide +kernel
theorem dX11_later_69 : decode cX11_later 69 = .ok (.getfield 56, 3) := by decide +kernel
theorem dX11_later_72 : decode cX11_later 72 = .ok (.aload_n 0, 1) := by decide +kernel
theorem dX11_later_73 : decode cX11_later 73 = .ok (.getfield 32, 3) := by decide +kernel
theorem dX11_later_76 : decode cX11_later 76 = .ok (.invokevirtual 262, 3) := by decide +kernel
theorem dX11_later_79 : decode cX11_later 79 = .ok (.aload_n 0, 1) := by decide +kernel
theorem dX11_later_80 : decode cX11_later 80 = .ok (.getfield 56, 3) := by decide +kernel
theorem dX11_later_83 : decode cX11_later 83 = .ok (.aload_n 0, 1) := by decide +kernel
theorem dX11_later_84 : decode cX11_later 84 = .ok (.getfield 32, 3) := by decide +kernel
theorem dX11_later_87 : decode cX11_later 87 = .ok (.invokevirtual 265, 3) := by decide +kernel
theorem dX11_later_90 : decode cX11_later 90 = .ok (.isub, 1) := by decide +kernel
theorem dX11_later_91 : decode cX11_later 91 = .ok (.ireturn, 1) := by decide +kernel
theorem dX11_later_92 : decode cX11_later 92 = .ok (.aload_n 0, 1) := by decide +kernel
theorem dX11_later_93 : decode cX11_later 93 = .ok (.getfield 42, 3) := by decide +kernel
theorem dX11_later_96 : decode cX11_later 96 = .ok (.getfield 84, 3) := by decide +kernel
theorem dX11_later_99 : decode cX11_later 99 = .ok (.aload_n 0, 1) := by decide +kernel
theorem dX11_later_100 : decode cX11_later 100 = .ok (.getfield 32, 3) := by decide +kernel
theorem dX11_later_103 : decode cX11_later 103 = .ok (.invokevirtual 166, 3) := by decide +kernel
theorem dX11_later_106 : decode cX11_later 106 = .ok (.aload_n 0, 1) := by decide +kernel
theorem dX11_later_107 : decode cX11_later 107 = .ok (.getfield 56, 3) := by decide +kernel
theorem dX11_later_110 : decode cX11_later 110 = .ok (.aload_n 0, 1) := by decide +kernel
theorem dX11_later_111 : decode cX11_later 111 = .ok (.getfield 32, 3) := by decide +kernel
theorem dX11_later_114 : decode cX11_later 114 = .ok (.invokevirtual 166, 3) := by decide +kernel
theorem dX11_later_117 : decode cX11_later 117 = .ok (.isub, 1) := by decide +kernel
theorem dX11_later_118 : decode cX11_later 118 = .ok (.ireturn, 1) := by decide +kernel
theorem dX11_opens_0 : decode cX11_opens 0 = .ok (.aload_n 0, 1) := by decide +kernel
theorem dX11_opens_1 : decode cX11_opens 1 = .ok (.iload_n 1, 1) := by decide +kernel
theorem dX11_opens_2 : decode cX11_opens 2 = .ok (.invokevirtual 179, 3) := by decide +kernel
theorem dX11_opens_5 : decode cX11_opens 5 = .ok (.aload_n 0, 1) := by decide +kernel
theorem dX11_opens_6 : decode cX11_opens 6 = .ok (.getfield 56, 3) := by decide +kernel
theorem dX11_opens_9 : decode cX11_opens 9 = .ok (.aload_n 0, 1) := by decide +kernel
theorem dX11_opens_10 : decode cX11_opens 10 = .ok (.getfield 42, 3) := by decide +kernel
theorem dX11_opens_13 : decode cX11_opens 13 = .ok (.getfield 84, 3) := by decide +kernel
theorem dX11_opens_16 : decode cX11_opens 16 = .ok (.invokevirtual 123, 3) := by decide +kernel
theorem dX11_opens_19 : decode cX11_opens 19 = .ok (.iconst 0, 1) := by decide +kernel
theorem dX11_opens_20 : decode cX11_opens 20 = .ok (.istore_n 2, 1) := by decide +kernel
theorem dX11_opens_21 : decode cX11_opens 21 = .ok (.iload_n 2, 1) := by decide +kernel
theorem dX11_opens_22 : decode cX11_opens 22 = .ok (.bipush 60, 2) := by decide +kernel
theorem dX11_opens_24 : decode cX11_opens 24 = .ok (.if_icmp .gt 33, 3) := by decide +kernel
theorem dX11_opens_27 : decode cX11_opens 27 = .ok (.aload_n 0, 1) := by decide +kernel
theorem dX11_opens_28 : decode cX11_opens 28 = .ok (.getfield 56, 3) := by decide +kernel
theorem dX11_opens_31 : decode cX11_opens 31 = .ok (.iload_n 1, 1) := by decide +kernel
theorem dX11_opens_32 : decode cX11_opens 32 = .ok (.invokevirtual 195, 3) := by decide +kernel
theorem dX11_opens_35 : decode cX11_opens 35 = .ok (.ifCond .eq 5, 3) := by decide +kernel
theorem dX11_opens_38 : decode cX11_opens 38 = .ok (.iload_n 2, 1) := by decide +kernel
theorem dX11_opens_39 : decode cX11_opens 39 = .ok (.ireturn, 1) := by decide +kernel
theorem dX11_opens_40 : decode cX11_opens 40 = .ok (.aload_n 0, 1) := by decide +kernel
theorem dX11_opens_41 : decode cX11_opens 41 = .ok (.getfield 56, 3) := by decide +kernel
theorem dX11_opens_44 : decode cX11_opens 44 = .ok (.aload_n 0, 1) := by decide +kernel
theorem dX11_opens_45 : decode cX11_opens 45 = .ok (.getfield 32, 3) := by decide +kernel
theorem dX11_opens_48 : decode cX11_opens 48 = .ok (.invokevirtual 268, 3) := by decide +kernel
theorem dX11_opens_51 : decode cX11_opens 51 = .ok (.iinc 2 1, 3) := by decide +kernel
theorem dX11_opens_54 : decode cX11_opens 54 = .ok (.goto (-33), 3) := by decide +kernel
theorem dX11_opens_57 : decode cX11_opens 57 = .ok (.iconst (-1), 1) := by decide +kernel
theorem dX11_opens_58 : decode cX11_opens 58 = .ok (.ireturn, 1) := by decide +kernel
theorem dX11_first_0 : decode cX11_first 0 = .ok (.aload_n 0, 1) := by decide +kernel
theorem dX11_first_1 : decode cX11_first 1 = .ok (.getfield 56, 3) := by decide +kernel
theorem dX11_first_4 : decode cX11_first 4 = .ok (.aload_n 0, 1) := by decide +kernel
theorem dX11_first_5 : decode cX11_first 5 = .ok (.getfield 42, 3) := by decide +kernel
theorem dX11_first_8 : decode cX11_first 8 = .ok (.getfield 84, 3) := by decide +kernel
theorem dX11_first_11 : decode cX11_first 11 = .ok (.invokevirtual 123, 3) := by decide +kernel
theorem dX11_first_14 : decode cX11_first 14 = .ok (.aload_n 0, 1) := by decide +kernel
theorem dX11_first_15 : decode cX11_first 15 = .ok (.getfield 56, 3) := by decide +kernel
theorem dX11_first_18 : decode cX11_first 18 = .ok (.aload_n 0, 1) := by decide +kernel
theorem dX11_first_19 : decode cX11_first 19 = .ok (.getfield 32, 3) := by decide +kernel
theorem dX11_first_22 : decode cX11_first 22 = .ok (.invokevirtual 159, 3) := by decide +kernel
theorem dX11_first_25 : decode cX11_first 25 = .ok (.iconst (-1), 1) := by decide +kernel
theorem dX11_first_26 : decode cX11_first 26 = .ok (.ixor, 1) := by decide +kernel
theorem dX11_first_27 : decode cX11_first 27 = .ok (.istore_n 1, 1) := by decide +kernel
theorem dX11_first_28 : decode cX11_first 28 = .ok (.iconst 1, 1) := by decide +kernel
theorem dX11_first_29 : decode cX11_first 29 = .ok (.istore_n 2, 1) := by decide +kernel
theorem dX11_first_30 : decode cX11_first 30 = .ok (.iload_n 2, 1) := by decide +kernel
theorem dX11_first_31 : decode cX11_first 31 = .ok (.bipush 60, 2) := by decide +kernel
theorem dX11_first_33 : decode cX11_first 33 = .ok (.if_icmp .gt 43, 3) := by decide +kernel
theorem dX11_first_36 : decode cX11_first 36 = .ok (.aload_n 0, 1) := by decide +kernel
theorem dX11_first_37 : decode cX11_first 37 = .ok (.getfield 56, 3) := by decide +kernel
theorem dX11_first_40 : decode cX11_first 40 = .ok (.aload_n 0, 1) := by decide +kernel
theorem dX11_first_41 : decode cX11_first 41 = .ok (.getfield 32, 3) := by decide +kernel
theorem dX11_first_44 : decode cX11_first 44 = .ok (.invokevirtual 268, 3) := by decide +kernel
theorem dX11_first_47 : decode cX11_first 47 = .ok (.aload_n 0, 1) := by decide +kernel
theorem dX11_first_48 : decode cX11_first 48 = .ok (.getfield 56, 3) := by decide +kernel
theorem dX11_first_51 : decode cX11_first 51 = .ok (.aload_n 0, 1) := by decide +kernel
theorem dX11_first_52 : decode cX11_first 52 = .ok (.getfield 32, 3) := by decide +kernel
theorem dX11_first_55 : decode cX11_first 55 = .ok (.invokevirtual 159, 3) := by decide +kernel
theorem dX11_first_58 : decode cX11_first 58 = .ok (.iload_n 1, 1) := by decide +kernel
theorem dX11_first_59 : decode cX11_first 59 = .ok (.iand, 1) := by decide +kernel
theorem dX11_first_60 : decode cX11_first 60 = .ok (.istore_n 3, 1) := by decide +kernel
theorem dX11_first_61 : decode cX11_first 61 = .ok (.iload_n 3, 1) := by decide +kernel
theorem dX11_first_62 : decode cX11_first 62 = .ok (.ifCond .eq 8, 3) := by decide +kernel
theorem dX11_first_65 : decode cX11_first 65 = .ok (.iload_n 3, 1) := by decide +kernel
theorem dX11_first_66 : decode cX11_first 66 = .ok (.invokestatic 272, 3) := by decide +kernel
theorem dX11_first_69 : decode cX11_first 69 = .ok (.ireturn, 1) := by decide +kernel
theorem dX11_first_70 : decode cX11_first 70 = .ok (.iinc 2 1, 3) := by decide +kernel
theorem dX11_first_73 : decode cX11_first 73 = .ok (.goto (-43), 3) := by decide +kernel
theorem dX11_first_76 : decode cX11_first 76 = .ok (.iconst (-1), 1) := by decide +kernel
theorem dX11_first_77 : decode cX11_first 77 = .ok (.ireturn, 1) := by decide +kernel
theorem dX11_where_0 : decode cX11_where 0 = .ok (.aload_n 0, 1) := by decide +kernel
theorem dX11_where_1 : decode cX11_where 1 = .ok (.iload_n 1, 1) := by decide +kernel
theorem dX11_where_2 : decode cX11_where 2 = .ok (.invokevirtual 207, 3) := by decide +kernel
theorem dX11_where_5 : decode cX11_where 5 = .ok (.iload_n 3, 1) := by decide +kernel
theorem dX11_where_6 : decode cX11_where 6 = .ok (.iconst 1, 1) := by decide +kernel
theorem dX11_where_7 : decode cX11_where 7 = .ok (.invokestatic 250, 3) := by decide +kernel
theorem dX11_where_10 : decode cX11_where 10 = .ok (.iload_n 2, 1) := by decide +kernel
theorem dX11_where_11 : decode cX11_where 11 = .ok (.iconst 0, 1) := by decide +kernel
theorem dX11_where_12 : decode cX11_where 12 = .ok (.invokestatic 253, 3) := by decide +kernel
theorem dX11_where_15 : decode cX11_where 15 = .ok (.aload_n 0, 1) := by decide +kernel
theorem dX11_where_16 : decode cX11_where 16 = .ok (.iload_n 2, 1) := by decide +kernel
theorem dX11_where_17 : decode cX11_where 17 = .ok (.invokevirtual 256, 3) := by decide +kernel
theorem dX11_where_20 : decode cX11_where 20 = .ok (.iload_n 3, 1) := by decide +kernel
theorem dX11_where_21 : decode cX11_where 21 = .ok (.ifCond .ne 15, 3) := by decide +kernel
theorem dX11_where_24 : decode cX11_where 24 = .ok (.aload_n 0, 1) := by decide +kernel
theorem dX11_where_25 : decode cX11_where 25 = .ok (.getfield 56, 3) := by decide +kernel
theorem dX11_where_28 : decode cX11_where 28 = .ok (.getfield 213, 3) := by decide +kernel
theorem dX11_where_31 : decode cX11_where 31 = .ok (.iload_n 1, 1) := by decide +kernel
theorem dX11_where_32 : decode cX11_where 32 = .ok (.iaload, 1) := by decide +kernel
theorem dX11_where_33 : decode cX11_where 33 = .ok (.goto 12, 3) := by decide +kernel
theorem dX11_where_36 : decode cX11_where 36 = .ok (.aload_n 0, 1) := by decide +kernel
theorem dX11_where_37 : decode cX11_where 37 = .ok (.getfield 56, 3) := by decide +kernel
theorem dX11_where_40 : decode cX11_where 40 = .ok (.getfield 216, 3) := by decide +kernel
theorem dX11_where_43 : decode cX11_where 43 = .ok (.iload_n 1, 1) := by decide +kernel
theorem dX11_where_44 : decode cX11_where 44 = .ok (.iaload, 1) := by decide +kernel
theorem dX11_where_45 : decode cX11_where 45 = .ok (.ireturn, 1) := by decide +kernel
theorem dX11_spent_0 : decode cX11_spent 0 = .ok (.aload_n 0, 1) := by decide +kernel
theorem dX11_spent_1 : decode cX11_spent 1 = .ok (.getfield 56, 3) := by decide +kernel
theorem dX11_spent_4 : decode cX11_spent 4 = .ok (.aload_n 0, 1) := by decide +kernel
theorem dX11_spent_5 : decode cX11_spent 5 = .ok (.getfield 42, 3) := by decide +kernel
theorem dX11_spent_8 : decode cX11_spent 8 = .ok (.getfield 84, 3) := by decide +kernel
theorem dX11_spent_11 : decode cX11_spent 11 = .ok (.invokevirtual 123, 3) := by decide +kernel
theorem dX11_spent_14 : decode cX11_spent 14 = .ok (.iconst 0, 1) := by decide +kernel
theorem dX11_spent_15 : decode cX11_spent 15 = .ok (.istore_n 1, 1) := by decide +kernel
theorem dX11_spent_16 : decode cX11_spent 16 = .ok (.iload_n 1, 1) := by decide +kernel
theorem dX11_spent_17 : decode cX11_spent 17 = .ok (.bipush 60, 2) := by decide +kernel
theorem dX11_spent_19 : decode cX11_spent 19 = .ok (.if_icmp .gt 36, 3) := by decide +kernel
theorem dX11_spent_22 : decode cX11_spent 22 = .ok (.aload_n 0, 1) := by decide +kernel
theorem dX11_spent_23 : decode cX11_spent 23 = .ok (.getfield 56, 3) := by decide +kernel
theorem dX11_spent_26 : decode cX11_spent 26 = .ok (.aload_n 0, 1) := by decide +kernel
theorem dX11_spent_27 : decode cX11_spent 27 = .ok (.getfield 32, 3) := by decide +kernel
theorem dX11_spent_30 : decode cX11_spent 30 = .ok (.invokevirtual 166, 3) := by decide +kernel
theorem dX11_spent_33 : decode cX11_spent 33 = .ok (.ifCond .ne 5, 3) := by decide +kernel
theorem dX11_spent_36 : decode cX11_spent 36 = .ok (.iload_n 1, 1) := by decide +kernel
theorem dX11_spent_37 : decode cX11_spent 37 = .ok (.ireturn, 1) := by decide +kernel
theorem dX11_spent_38 : decode cX11_spent 38 = .ok (.aload_n 0, 1) := by decide +kernel
theorem dX11_spent_39 : decode cX11_spent 39 = .ok (.getfield 56, 3) := by decide +kernel
theorem dX11_spent_42 : decode cX11_spent 42 = .ok (.aload_n 0, 1) := by decide +kernel
theorem dX11_spent_43 : decode cX11_spent 43 = .ok (.getfield 32, 3) := by decide +kernel
theorem dX11_spent_46 : decode cX11_spent 46 = .ok (.invokevirtual 268, 3) := by decide +kernel
theorem dX11_spent_49 : decode cX11_spent 49 = .ok (.iinc 1 1, 3) := by decide +kernel
theorem dX11_spent_52 : decode cX11_spent 52 = .ok (.goto (-36), 3) := by decide +kernel
theorem dX11_spent_55 : decode cX11_spent 55 = .ok (.iconst (-1), 1) := by decide +kernel
theorem dX11_spent_56 : decode cX11_spent 56 = .ok (.ireturn, 1) := by decide +kernel
theorem dX11_steady_0 : decode cX11_steady 0 = .ok (.aload_n 0, 1) := by decide +kernel
theorem dX11_steady_1 : decode cX11_steady 1 = .ok (.getfield 56, 3) := by decide +kernel
theorem dX11_steady_4 : decode cX11_steady 4 = .ok (.aload_n 0, 1) := by decide +kernel
theorem dX11_steady_5 : decode cX11_steady 5 = .ok (.getfield 42, 3) := by decide +kernel
theorem dX11_steady_8 : decode cX11_steady 8 = .ok (.getfield 84, 3) := by decide +kernel
theorem dX11_steady_11 : decode cX11_steady 11 = .ok (.invokevirtual 123, 3) := by decide +kernel
theorem dX11_steady_14 : decode cX11_steady 14 = .ok (.iconst 1, 1) := by decide +kernel
theorem dX11_steady_15 : decode cX11_steady 15 = .ok (.istore_n 1, 1) := by decide +kernel
theorem dX11_steady_16 : decode cX11_steady 16 = .ok (.iload_n 1, 1) := by decide +kernel
theorem dX11_steady_17 : decode cX11_steady 17 = .ok (.bipush 60, 2) := by decide +kernel
theorem dX11_steady_19 : decode cX11_steady 19 = .ok (.if_icmp .gt 51, 3) := by decide +kernel
theorem dX11_steady_22 : decode cX11_steady 22 = .ok (.aload_n 0, 1) := by decide +kernel
theorem dX11_steady_23 : decode cX11_steady 23 = .ok (.getfield 60, 3) := by decide +kernel
theorem dX11_steady_26 : decode cX11_steady 26 = .ok (.aload_n 0, 1) := by decide +kernel
theorem dX11_steady_27 : decode cX11_steady 27 = .ok (.getfield 56, 3) := by decide +kernel
theorem dX11_steady_30 : decode cX11_steady 30 = .ok (.invokevirtual 123, 3) := by decide +kernel
theorem dX11_steady_33 : decode cX11_steady 33 = .ok (.aload_n 0, 1) := by decide +kernel
theorem dX11_steady_34 : decode cX11_steady 34 = .ok (.getfield 56, 3) := by decide +kernel
theorem dX11_steady_37 : decode cX11_steady 37 = .ok (.aload_n 0, 1) := by decide +kernel
theorem dX11_steady_38 : decode cX11_steady 38 = .ok (.getfield 32, 3) := by decide +kernel
theorem dX11_steady_41 : decode cX11_steady 41 = .ok (.invokevirtual 268, 3) := by decide +kernel
theorem dX11_steady_44 : decode cX11_steady 44 = .ok (.aload_n 0, 1) := by decide +kernel
theorem dX11_steady_45 : decode cX11_steady 45 = .ok (.getfield 56, 3) := by decide +kernel
theorem dX11_steady_48 : decode cX11_steady 48 = .ok (.aload_n 0, 1) := by decide +kernel
theorem dX11_steady_49 : decode cX11_steady 49 = .ok (.getfield 60, 3) := by decide +kernel
theorem dX11_steady_52 : decode cX11_steady 52 = .ok (.aload_n 0, 1) := by decide +kernel
theorem dX11_steady_53 : decode cX11_steady 53 = .ok (.getfield 32, 3) := by decide +kernel
theorem dX11_steady_56 : decode cX11_steady 56 = .ok (.invokevirtual 275, 3) := by decide +kernel
theorem dX11_steady_59 : decode cX11_steady 59 = .ok (.ifCond .eq 5, 3) := by decide +kernel
theorem dX11_steady_62 : decode cX11_steady 62 = .ok (.iload_n 1, 1) := by decide +kernel
theorem dX11_steady_63 : decode cX11_steady 63 = .ok (.ireturn, 1) := by decide +kernel
theorem dX11_steady_64 : decode cX11_steady 64 = .ok (.iinc 1 1, 3) := by decide +kernel
theorem dX11_steady_67 : decode cX11_steady 67 = .ok (.goto (-51), 3) := by decide +kernel
theorem dX11_steady_70 : decode cX11_steady 70 = .ok (.iconst (-1), 1) := by decide +kernel
theorem dX11_steady_71 : decode cX11_steady 71 = .ok (.ireturn, 1) := by decide +kernel
theorem dX11_bare_0 : decode cX11_bare 0 = .ok (.iload_n 1, 1) := by decide +kernel
theorem dX11_bare_1 : decode cX11_bare 1 = .ok (.iconst 0, 1) := by decide +kernel
theorem dX11_bare_2 : decode cX11_bare 2 = .ok (.invokestatic 253, 3) := by decide +kernel
theorem dX11_bare_5 : decode cX11_bare 5 = .ok (.aload_n 0, 1) := by decide +kernel
theorem dX11_bare_6 : decode cX11_bare 6 = .ok (.iload_n 1, 1) := by decide +kernel
theorem dX11_bare_7 : decode cX11_bare 7 = .ok (.invokevirtual 256, 3) := by decide +kernel
theorem dX11_bare_10 : decode cX11_bare 10 = .ok (.aload_n 0, 1) := by decide +kernel
theorem dX11_bare_11 : decode cX11_bare 11 = .ok (.getfield 56, 3) := by decide +kernel
theorem dX11_bare_14 : decode cX11_bare 14 = .ok (.aload_n 0, 1) := by decide +kernel
theorem dX11_bare_15 : decode cX11_bare 15 = .ok (.getfield 32, 3) := by decide +kernel
theorem dX11_bare_18 : decode cX11_bare 18 = .ok (.invokevirtual 279, 3) := by decide +kernel
theorem dX11_bare_21 : decode cX11_bare 21 = .ok (.ireturn, 1) := by decide +kernel
theorem dX11_meet_0 : decode cX11_meet 0 = .ok (.aload_n 0, 1) := by decide +kernel
theorem dX11_meet_1 : decode cX11_meet 1 = .ok (.iload_n 1, 1) := by decide +kernel
theorem dX11_meet_2 : decode cX11_meet 2 = .ok (.invokevirtual 207, 3) := by decide +kernel
theorem dX11_meet_5 : decode cX11_meet 5 = .ok (.aload_n 0, 1) := by decide +kernel
theorem dX11_meet_6 : decode cX11_meet 6 = .ok (.iload_n 2, 1) := by decide +kernel
theorem dX11_meet_7 : decode cX11_meet 7 = .ok (.invokevirtual 207, 3) := by decide +kernel
theorem dX11_meet_10 : decode cX11_meet 10 = .ok (.iload_n 1, 1) := by decide +kernel
theorem dX11_meet_11 : decode cX11_meet 11 = .ok (.iload_n 2, 1) := by decide +kernel
theorem dX11_meet_12 : decode cX11_meet 12 = .ok (.if_icmp .eq 34, 3) := by decide +kernel
theorem dX11_meet_15 : decode cX11_meet 15 = .ok (.aload_n 0, 1) := by decide +kernel
theorem dX11_meet_16 : decode cX11_meet 16 = .ok (.getfield 42, 3) := by decide +kernel
theorem dX11_meet_19 : decode cX11_meet 19 = .ok (.getfield 84, 3) := by decide +kernel
theorem dX11_meet_22 : decode cX11_meet 22 = .ok (.getfield 213, 3) := by decide +kernel
theorem dX11_meet_25 : decode cX11_meet 25 = .ok (.iload_n 1, 1) := by decide +kernel
theorem dX11_meet_26 : decode cX11_meet 26 = .ok (.iaload, 1) := by decide +kernel
theorem dX11_meet_27 : decode cX11_meet 27 = .ok (.aload_n 0, 1) := by decide +kernel
theorem dX11_meet_28 : decode cX11_meet 28 = .ok (.getfield 42, 3) := by decide +kernel
theorem dX11_meet_31 : decode cX11_meet 31 = .ok (.getfield 84, 3) := by decide +kernel
theorem dX11_meet_34 : decode cX11_meet 34 = .ok (.getfield 213, 3) := by decide +kernel
theorem dX11_meet_37 : decode cX11_meet 37 = .ok (.iload_n 2, 1) := by decide +kernel
theorem dX11_meet_38 : decode cX11_meet 38 = .ok (.iaload, 1) := by decide +kernel
theorem dX11_meet_39 : decode cX11_meet 39 = .ok (.if_icmp .ne 7, 3) := by decide +kernel
theorem dX11_meet_42 : decode cX11_meet 42 = .ok (.iconst 0, 1) := by decide +kernel
theorem dX11_meet_43 : decode cX11_meet 43 = .ok (.goto 4, 3) := by decide +kernel
theorem dX11_meet_46 : decode cX11_meet 46 = .ok (.iconst (-1), 1) := by decide +kernel
theorem dX11_meet_47 : decode cX11_meet 47 = .ok (.ireturn, 1) := by decide +kernel
theorem dX11_lookAhead_0 : decode cX11_lookAhead 0 = .ok (.aload_n 0, 1) := by decide +kernel
theorem dX11_lookAhead_1 : decode cX11_lookAhead 1 = .ok (.getfield 56, 3) := by decide +kernel
theorem dX11_lookAhead_4 : decode cX11_lookAhead 4 = .ok (.aload_n 0, 1) := by decide +kernel
theorem dX11_lookAhead_5 : decode cX11_lookAhead 5 = .ok (.getfield 42, 3) := by decide +kernel
theorem dX11_lookAhead_8 : decode cX11_lookAhead 8 = .ok (.getfield 84, 3) := by decide +kernel
theorem dX11_lookAhead_11 : decode cX11_lookAhead 11 = .ok (.invokevirtual 123, 3) := by decide +kernel
theorem dX11_lookAhead_14 : decode cX11_lookAhead 14 = .ok (.aload_n 0, 1) := by decide +kernel
theorem dX11_lookAhead_15 : decode cX11_lookAhead 15 = .ok (.getfield 56, 3) := by decide +kernel
theorem dX11_lookAhead_18 : decode cX11_lookAhead 18 = .ok (.aload_n 0, 1) := by decide +kernel
theorem dX11_lookAhead_19 : decode cX11_lookAhead 19 = .ok (.getfield 32, 3) := by decide +kernel
theorem dX11_lookAhead_22 : decode cX11_lookAhead 22 = .ok (.iload_n 1, 1) := by decide +kernel
theorem dX11_lookAhead_23 : decode cX11_lookAhead 23 = .ok (.invokevirtual 228, 3) := by decide +kernel
theorem dX11_lookAhead_26 : decode cX11_lookAhead 26 = .ok (.return_, 1) := by decide +kernel
theorem dX11_toHold_0 : decode cX11_toHold 0 = .ok (.aload_n 0, 1) := by decide +kernel
theorem dX11_toHold_1 : decode cX11_toHold 1 = .ok (.iload_n 1, 1) := by decide +kernel
theorem dX11_toHold_2 : decode cX11_toHold 2 = .ok (.invokevirtual 179, 3) := by decide +kernel
theorem dX11_toHold_5 : decode cX11_toHold 5 = .ok (.iload_n 2, 1) := by decide +kernel
theorem dX11_toHold_6 : decode cX11_toHold 6 = .ok (.iconst 1, 1) := by decide +kernel
theorem dX11_toHold_7 : decode cX11_toHold 7 = .ok (.invokestatic 253, 3) := by decide +kernel
theorem dX11_toHold_10 : decode cX11_toHold 10 = .ok (.bipush 99, 2) := by decide +kernel
theorem dX11_toHold_12 : decode cX11_toHold 12 = .ok (.aload_n 0, 1) := by decide +kernel
theorem dX11_toHold_13 : decode cX11_toHold 13 = .ok (.getfield 42, 3) := by decide +kernel
theorem dX11_toHold_16 : decode cX11_toHold 16 = .ok (.getfield 84, 3) := by decide +kernel
theorem dX11_toHold_19 : decode cX11_toHold 19 = .ok (.getfield 185, 3) := by decide +kernel
theorem dX11_toHold_22 : decode cX11_toHold 22 = .ok (.iload_n 1, 1) := by decide +kernel
theorem dX11_toHold_23 : decode cX11_toHold 23 = .ok (.iaload, 1) := by decide +kernel
theorem dX11_toHold_24 : decode cX11_toHold 24 = .ok (.isub, 1) := by decide +kernel
theorem dX11_toHold_25 : decode cX11_toHold 25 = .ok (.istore_n 3, 1) := by decide +kernel
theorem dX11_toHold_26 : decode cX11_toHold 26 = .ok (.iconst 0, 1) := by decide +kernel
theorem dX11_toHold_27 : decode cX11_toHold 27 = .ok (.istore 4, 2) := by decide +kernel
theorem dX11_toHold_29 : decode cX11_toHold 29 = .ok (.iload 4, 2) := by decide +kernel
theorem dX11_toHold_31 : decode cX11_toHold 31 = .ok (.iload_n 3, 1) := by decide +kernel
theorem dX11_toHold_32 : decode cX11_toHold 32 = .ok (.if_icmp .gt 49, 3) := by decide +kernel
theorem dX11_toHold_35 : decode cX11_toHold 35 = .ok (.aload_n 0, 1) := by decide +kernel
theorem dX11_toHold_36 : decode cX11_toHold 36 = .ok (.getfield 56, 3) := by decide +kernel
theorem dX11_toHold_39 : decode cX11_toHold 39 = .ok (.aload_n 0, 1) := by decide +kernel
theorem dX11_toHold_40 : decode cX11_toHold 40 = .ok (.getfield 42, 3) := by decide +kernel
theorem dX11_toHold_43 : decode cX11_toHold 43 = .ok (.getfield 84, 3) := by decide +kernel
theorem dX11_toHold_46 : decode cX11_toHold 46 = .ok (.invokevirtual 123, 3) := by decide +kernel
theorem dX11_toHold_49 : decode cX11_toHold 49 = .ok (.aload_n 0, 1) := by decide +kernel
theorem dX11_toHold_50 : decode cX11_toHold 50 = .ok (.getfield 56, 3) := by decide +kernel
theorem dX11_toHold_53 : decode cX11_toHold 53 = .ok (.getfield 185, 3) := by decide +kernel
theorem dX11_toHold_56 : decode cX11_toHold 56 = .ok (.iload_n 1, 1) := by decide +kernel
theorem dX11_toHold_57 : decode cX11_toHold 57 = .ok (.dup2, 1) := by decide +kernel
theorem dX11_toHold_58 : decode cX11_toHold 58 = .ok (.iaload, 1) := by decide +kernel
theorem dX11_toHold_59 : decode cX11_toHold 59 = .ok (.iload 4, 2) := by decide +kernel
theorem dX11_toHold_61 : decode cX11_toHold 61 = .ok (.iadd, 1) := by decide +kernel
theorem dX11_toHold_62 : decode cX11_toHold 62 = .ok (.iastore, 1) := by decide +kernel
theorem dX11_toHold_63 : decode cX11_toHold 63 = .ok (.aload_n 0, 1) := by decide +kernel
theorem dX11_toHold_64 : decode cX11_toHold 64 = .ok (.iload_n 1, 1) := by decide +kernel
theorem dX11_toHold_65 : decode cX11_toHold 65 = .ok (.iload_n 2, 1) := by decide +kernel
theorem dX11_toHold_66 : decode cX11_toHold 66 = .ok (.invokevirtual 282, 3) := by decide +kernel
theorem dX11_toHold_69 : decode cX11_toHold 69 = .ok (.ifCond .eq 6, 3) := by decide +kernel
theorem dX11_toHold_72 : decode cX11_toHold 72 = .ok (.iload 4, 2) := by decide +kernel
theorem dX11_toHold_74 : decode cX11_toHold 74 = .ok (.ireturn, 1) := by decide +kernel
theorem dX11_toHold_75 : decode cX11_toHold 75 = .ok (.iinc 4 1, 3) := by decide +kernel
theorem dX11_toHold_78 : decode cX11_toHold 78 = .ok (.goto (-49), 3) := by decide +kernel
theorem dX11_toHold_81 : decode cX11_toHold 81 = .ok (.iconst (-1), 1) := by decide +kernel
theorem dX11_toHold_82 : decode cX11_toHold 82 = .ok (.ireturn, 1) := by decide +kernel
theorem dX11_staysClosed_0 : decode cX11_staysClosed 0 = .ok (.iconst 0, 1) := by decide +kernel
theorem dX11_staysClosed_1 : decode cX11_staysClosed 1 = .ok (.istore_n 3, 1) := by decide +kernel
theorem dX11_staysClosed_2 : decode cX11_staysClosed 2 = .ok (.iload_n 3, 1) := by decide +kernel
theorem dX11_staysClosed_3 : decode cX11_staysClosed 3 = .ok (.iload_n 2, 1) := by decide +kernel
theorem dX11_staysClosed_4 : decode cX11_staysClosed 4 = .ok (.if_icmp .ge 33, 3) := by decide +kernel
theorem dX11_staysClosed_7 : decode cX11_staysClosed 7 = .ok (.aload_n 0, 1) := by decide +kernel
theorem dX11_staysClosed_8 : decode cX11_staysClosed 8 = .ok (.getfield 56, 3) := by decide +kernel
theorem dX11_staysClosed_11 : decode cX11_staysClosed 11 = .ok (.aload_n 0, 1) := by decide +kernel
theorem dX11_staysClosed_12 : decode cX11_staysClosed 12 = .ok (.getfield 32, 3) := by decide +kernel
theorem dX11_staysClosed_15 : decode cX11_staysClosed 15 = .ok (.invokevirtual 268, 3) := by decide +kernel
theorem dX11_staysClosed_18 : decode cX11_staysClosed 18 = .ok (.aload_n 0, 1) := by decide +kernel
theorem dX11_staysClosed_19 : decode cX11_staysClosed 19 = .ok (.getfield 56, 3) := by decide +kernel
theorem dX11_staysClosed_22 : decode cX11_staysClosed 22 = .ok (.iload_n 1, 1) := by decide +kernel
theorem dX11_staysClosed_23 : decode cX11_staysClosed 23 = .ok (.invokevirtual 195, 3) := by decide +kernel
theorem dX11_staysClosed_26 : decode cX11_staysClosed 26 = .ok (.ifCond .eq 5, 3) := by decide +kernel
theorem dX11_staysClosed_29 : decode cX11_staysClosed 29 = .ok (.iconst 0, 1) := by decide +kernel
theorem dX11_staysClosed_30 : decode cX11_staysClosed 30 = .ok (.ireturn, 1) := by decide +kernel
theorem dX11_staysClosed_31 : decode cX11_staysClosed 31 = .ok (.iinc 3 1, 3) := by decide +kernel
theorem dX11_staysClosed_34 : decode cX11_staysClosed 34 = .ok (.goto (-32), 3) := by decide +kernel
theorem dX11_staysClosed_37 : decode cX11_staysClosed 37 = .ok (.iconst 1, 1) := by decide +kernel
theorem dX11_staysClosed_38 : decode cX11_staysClosed 38 = .ok (.ireturn, 1) := by decide +kernel
theorem dX11_toSend_0 : decode cX11_toSend 0 = .ok (.aload_n 0, 1) := by decide +kernel
theorem dX11_toSend_1 : decode cX11_toSend 1 = .ok (.iload_n 1, 1) := by decide +kernel
theorem dX11_toSend_2 : decode cX11_toSend 2 = .ok (.invokevirtual 207, 3) := by decide +kernel
theorem dX11_toSend_5 : decode cX11_toSend 5 = .ok (.iload_n 3, 1) := by decide +kernel
theorem dX11_toSend_6 : decode cX11_toSend 6 = .ok (.iconst 1, 1) := by decide +kernel
theorem dX11_toSend_7 : decode cX11_toSend 7 = .ok (.invokestatic 250, 3) := by decide +kernel
theorem dX11_toSend_10 : decode cX11_toSend 10 = .ok (.iload_n 2, 1) := by decide +kernel
theorem dX11_toSend_11 : decode cX11_toSend 11 = .ok (.iconst 1, 1) := by decide +kernel
theorem dX11_toSend_12 : decode cX11_toSend 12 = .ok (.invokestatic 253, 3) := by decide +kernel
theorem dX11_toSend_15 : decode cX11_toSend 15 = .ok (.iconst 0, 1) := by decide +kernel
theorem dX11_toSend_16 : decode cX11_toSend 16 = .ok (.istore 4, 2) := by decide +kernel
theorem dX11_toSend_18 : decode cX11_toSend 18 = .ok (.bipush 13, 2) := by decide +kernel
theorem dX11_toSend_20 : decode cX11_toSend 20 = .ok (.istore 5, 2) := by decide +kernel
theorem dX11_toSend_22 : decode cX11_toSend 22 = .ok (.iconst 0, 1) := by decide +kernel
theorem dX11_toSend_23 : decode cX11_toSend 23 = .ok (.istore 6, 2) := by decide +kernel
theorem dX11_toSend_25 : decode cX11_toSend 25 = .ok (.iload 6, 2) := by decide +kernel
theorem dX11_toSend_27 : decode cX11_toSend 27 = .ok (.aload_n 0, 1) := by decide +kernel
theorem dX11_toSend_28 : decode cX11_toSend 28 = .ok (.getfield 32, 3) := by decide +kernel
theorem dX11_toSend_31 : decode cX11_toSend 31 = .ok (.getfield 141, 3) := by decide +kernel
theorem dX11_toSend_34 : decode cX11_toSend 34 = .ok (.if_icmp .ge 77, 3) := by decide +kernel
theorem dX11_toSend_37 : decode cX11_toSend 37 = .ok (.aload_n 0, 1) := by decide +kernel
theorem dX11_toSend_38 : decode cX11_toSend 38 = .ok (.getfield 56, 3) := by decide +kernel
theorem dX11_toSend_41 : decode cX11_toSend 41 = .ok (.aload_n 0, 1) := by decide +kernel
theorem dX11_toSend_42 : decode cX11_toSend 42 = .ok (.getfield 42, 3) := by decide +kernel
theorem dX11_toSend_45 : decode cX11_toSend 45 = .ok (.getfield 84, 3) := by decide +kernel
theorem dX11_toSend_48 : decode cX11_toSend 48 = .ok (.invokevirtual 123, 3) := by decide +kernel
theorem dX11_toSend_51 : decode cX11_toSend 51 = .ok (.aload_n 0, 1) := by decide +kernel
theorem dX11_toSend_52 : decode cX11_toSend 52 = .ok (.getfield 56, 3) := by decide +kernel
theorem dX11_toSend_55 : decode cX11_toSend 55 = .ok (.getfield 213, 3) := by decide +kernel
theorem dX11_toSend_58 : decode cX11_toSend 58 = .ok (.iload_n 1, 1) := by decide +kernel
theorem dX11_toSend_59 : decode cX11_toSend 59 = .ok (.iload 6, 2) := by decide +kernel
theorem dX11_toSend_61 : decode cX11_toSend 61 = .ok (.iastore, 1) := by decide +kernel
theorem dX11_toSend_62 : decode cX11_toSend 62 = .ok (.aload_n 0, 1) := by decide +kernel
theorem dX11_toSend_63 : decode cX11_toSend 63 = .ok (.getfield 56, 3) := by decide +kernel
theorem dX11_toSend_66 : decode cX11_toSend 66 = .ok (.aload_n 0, 1) := by decide +kernel
theorem dX11_toSend_67 : decode cX11_toSend 67 = .ok (.getfield 32, 3) := by decide +kernel
theorem dX11_toSend_70 : decode cX11_toSend 70 = .ok (.iload_n 2, 1) := by decide +kernel
theorem dX11_toSend_71 : decode cX11_toSend 71 = .ok (.invokevirtual 228, 3) := by decide +kernel
theorem dX11_toSend_74 : decode cX11_toSend 74 = .ok (.aload_n 0, 1) := by decide +kernel
theorem dX11_toSend_75 : decode cX11_toSend 75 = .ok (.getfield 56, 3) := by decide +kernel
theorem dX11_toSend_78 : decode cX11_toSend 78 = .ok (.aload_n 0, 1) := by decide +kernel
theorem dX11_toSend_79 : decode cX11_toSend 79 = .ok (.getfield 32, 3) := by decide +kernel
theorem dX11_toSend_82 : decode cX11_toSend 82 = .ok (.invokevirtual 159, 3) := by decide +kernel
theorem dX11_toSend_85 : decode cX11_toSend 85 = .ok (.invokestatic 286, 3) := by decide +kernel
theorem dX11_toSend_88 : decode cX11_toSend 88 = .ok (.istore 7, 2) := by decide +kernel
theorem dX11_toSend_90 : decode cX11_toSend 90 = .ok (.iload 7, 2) := by decide +kernel
theorem dX11_toSend_92 : decode cX11_toSend 92 = .ok (.iload 5, 2) := by decide +kernel
theorem dX11_toSend_94 : decode cX11_toSend 94 = .ok (.if_icmp .ge 11, 3) := by decide +kernel
theorem dX11_toSend_97 : decode cX11_toSend 97 = .ok (.iload 7, 2) := by decide +kernel
theorem dX11_toSend_99 : decode cX11_toSend 99 = .ok (.istore 5, 2) := by decide +kernel
theorem dX11_toSend_101 : decode cX11_toSend 101 = .ok (.iload 6, 2) := by decide +kernel
theorem dX11_toSend_103 : decode cX11_toSend 103 = .ok (.istore 4, 2) := by decide +kernel
theorem dX11_toSend_105 : decode cX11_toSend 105 = .ok (.iinc 6 1, 3) := by decide +kernel
theorem dX11_toSend_108 : decode cX11_toSend 108 = .ok (.goto (-83), 3) := by decide +kernel
theorem dX11_toSend_111 : decode cX11_toSend 111 = .ok (.iload_n 3, 1) := by decide +kernel
theorem dX11_toSend_112 : decode cX11_toSend 112 = .ok (.ifCond .ne 8, 3) := by decide +kernel
theorem dX11_toSend_115 : decode cX11_toSend 115 = .ok (.iload 4, 2) := by decide +kernel
theorem dX11_toSend_117 : decode cX11_toSend 117 = .ok (.goto 5, 3) := by decide +kernel
theorem dX11_toSend_120 : decode cX11_toSend 120 = .ok (.iload 5, 2) := by decide +kernel
theorem dX11_toSend_122 : decode cX11_toSend 122 = .ok (.ireturn, 1) := by decide +kernel
theorem dX11_bestStitch_0 : decode cX11_bestStitch 0 = .ok (.aload_n 0, 1) := by decide +kernel
theorem dX11_bestStitch_1 : decode cX11_bestStitch 1 = .ok (.iload_n 1, 1) := by decide +kernel
theorem dX11_bestStitch_2 : decode cX11_bestStitch 2 = .ok (.invokevirtual 179, 3) := by decide +kernel
theorem dX11_bestStitch_5 : decode cX11_bestStitch 5 = .ok (.iload_n 2, 1) := by decide +kernel
theorem dX11_bestStitch_6 : decode cX11_bestStitch 6 = .ok (.iconst 1, 1) := by decide +kernel
theorem dX11_bestStitch_7 : decode cX11_bestStitch 7 = .ok (.invokestatic 253, 3) := by decide +kernel
theorem dX11_bestStitch_10 : decode cX11_bestStitch 10 = .ok (.iconst 0, 1) := by decide +kernel
theorem dX11_bestStitch_11 : decode cX11_bestStitch 11 = .ok (.istore_n 3, 1) := by decide +kernel
theorem dX11_bestStitch_12 : decode cX11_bestStitch 12 = .ok (.iconst (-1), 1) := by decide +kernel
theorem dX11_bestStitch_13 : decode cX11_bestStitch 13 = .ok (.istore 4, 2) := by decide +kernel
theorem dX11_bestStitch_15 : decode cX11_bestStitch 15 = .ok (.iconst 0, 1) := by decide +kernel
theorem dX11_bestStitch_16 : decode cX11_bestStitch 16 = .ok (.istore 5, 2) := by decide +kernel
theorem dX11_bestStitch_18 : decode cX11_bestStitch 18 = .ok (.iload 5, 2) := by decide +kernel
theorem dX11_bestStitch_20 : decode cX11_bestStitch 20 = .ok (.iconst 2, 1) := by decide +kernel
theorem dX11_bestStitch_21 : decode cX11_bestStitch 21 = .ok (.if_icmp .gt 74, 3) := by decide +kernel
theorem dX11_bestStitch_24 : decode cX11_bestStitch 24 = .ok (.aload_n 0, 1) := by decide +kernel
theorem dX11_bestStitch_25 : decode cX11_bestStitch 25 = .ok (.getfield 56, 3) := by decide +kernel
theorem dX11_bestStitch_28 : decode cX11_bestStitch 28 = .ok (.aload_n 0, 1) := by decide +kernel
theorem dX11_bestStitch_29 : decode cX11_bestStitch 29 = .ok (.getfield 42, 3) := by decide +kernel
theorem dX11_bestStitch_32 : decode cX11_bestStitch 32 = .ok (.getfield 84, 3) := by decide +kernel
theorem dX11_bestStitch_35 : decode cX11_bestStitch 35 = .ok (.invokevirtual 123, 3) := by decide +kernel
theorem dX11_bestStitch_38 : decode cX11_bestStitch 38 = .ok (.aload_n 0, 1) := by decide +kernel
theorem dX11_bestStitch_39 : decode cX11_bestStitch 39 = .ok (.getfield 56, 3) := by decide +kernel
theorem dX11_bestStitch_42 : decode cX11_bestStitch 42 = .ok (.getfield 188, 3) := by decide +kernel
theorem dX11_bestStitch_45 : decode cX11_bestStitch 45 = .ok (.iload_n 1, 1) := by decide +kernel
theorem dX11_bestStitch_46 : decode cX11_bestStitch 46 = .ok (.iload 5, 2) := by decide +kernel
theorem dX11_bestStitch_48 : decode cX11_bestStitch 48 = .ok (.iastore, 1) := by decide +kernel
theorem dX11_bestStitch_49 : decode cX11_bestStitch 49 = .ok (.aload_n 0, 1) := by decide +kernel
theorem dX11_bestStitch_50 : decode cX11_bestStitch 50 = .ok (.getfield 56, 3) := by decide +kernel
theorem dX11_bestStitch_53 : decode cX11_bestStitch 53 = .ok (.aload_n 0, 1) := by decide +kernel
theorem dX11_bestStitch_54 : decode cX11_bestStitch 54 = .ok (.getfield 32, 3) := by decide +kernel
theorem dX11_bestStitch_57 : decode cX11_bestStitch 57 = .ok (.iload_n 2, 1) := by decide +kernel
theorem dX11_bestStitch_58 : decode cX11_bestStitch 58 = .ok (.invokevirtual 228, 3) := by decide +kernel
theorem dX11_bestStitch_61 : decode cX11_bestStitch 61 = .ok (.aload_n 0, 1) := by decide +kernel
theorem dX11_bestStitch_62 : decode cX11_bestStitch 62 = .ok (.getfield 56, 3) := by decide +kernel
theorem dX11_bestStitch_65 : decode cX11_bestStitch 65 = .ok (.getfield 185, 3) := by decide +kernel
theorem dX11_bestStitch_68 : decode cX11_bestStitch 68 = .ok (.iload_n 1, 1) := by decide +kernel
theorem dX11_bestStitch_69 : decode cX11_bestStitch 69 = .ok (.iaload, 1) := by decide +kernel
theorem dX11_bestStitch_70 : decode cX11_bestStitch 70 = .ok (.iload 4, 2) := by decide +kernel
theorem dX11_bestStitch_72 : decode cX11_bestStitch 72 = .ok (.if_icmp .le 17, 3) := by decide +kernel
theorem dX11_bestStitch_75 : decode cX11_bestStitch 75 = .ok (.aload_n 0, 1) := by decide +kernel
theorem dX11_bestStitch_76 : decode cX11_bestStitch 76 = .ok (.getfield 56, 3) := by decide +kernel
theorem dX11_bestStitch_79 : decode cX11_bestStitch 79 = .ok (.getfield 185, 3) := by decide +kernel
theorem dX11_bestStitch_82 : decode cX11_bestStitch 82 = .ok (.iload_n 1, 1) := by decide +kernel
theorem dX11_bestStitch_83 : decode cX11_bestStitch 83 = .ok (.iaload, 1) := by decide +kernel
theorem dX11_bestStitch_84 : decode cX11_bestStitch 84 = .ok (.istore 4, 2) := by decide +kernel
theorem dX11_bestStitch_86 : decode cX11_bestStitch 86 = .ok (.iload 5, 2) := by decide +kernel
theorem dX11_bestStitch_88 : decode cX11_bestStitch 88 = .ok (.istore_n 3, 1) := by decide +kernel
theorem dX11_bestStitch_89 : decode cX11_bestStitch 89 = .ok (.iinc 5 1, 3) := by decide +kernel
theorem dX11_bestStitch_92 : decode cX11_bestStitch 92 = .ok (.goto (-74), 3) := by decide +kernel
theorem dX11_bestStitch_95 : decode cX11_bestStitch 95 = .ok (.iload_n 3, 1) := by decide +kernel
theorem dX11_bestStitch_96 : decode cX11_bestStitch 96 = .ok (.ireturn, 1) := by decide +kernel
theorem dX11_worst_0 : decode cX11_worst 0 = .ok (.iload_n 1, 1) := by decide +kernel
theorem dX11_worst_1 : decode cX11_worst 1 = .ok (.iconst 1, 1) := by decide +kernel
theorem dX11_worst_2 : decode cX11_worst 2 = .ok (.if_icmp .lt 9, 3) := by decide +kernel
theorem dX11_worst_5 : decode cX11_worst 5 = .ok (.iload_n 1, 1) := by decide +kernel
theorem dX11_worst_6 : decode cX11_worst 6 = .ok (.bipush 50, 2) := by decide +kernel
theorem dX11_worst_8 : decode cX11_worst 8 = .ok (.if_icmp .le 14, 3) := by decide +kernel
theorem dX11_worst_11 : decode cX11_worst 11 = .ok (.new 95, 3) := by decide +kernel
theorem dX11_worst_14 : decode cX11_worst 14 = .ok (.dup, 1) := by decide +kernel
theorem dX11_worst_15 : decode cX11_worst 15 = .ok (.ldc_w 291, 3) := by decide +kernel
theorem dX11_worst_18 : decode cX11_worst 18 = .ok (.invokespecial 99, 3) := by decide +kernel
theorem dX11_worst_21 : decode cX11_worst 21 = .ok (.athrow, 1) := by decide +kernel
theorem dX11_worst_22 : decode cX11_worst 22 = .ok (.iconst (-1), 1) := by decide +kernel
theorem dX11_worst_23 : decode cX11_worst 23 = .ok (.istore_n 2, 1) := by decide +kernel
theorem dX11_worst_24 : decode cX11_worst 24 = .ok (.iconst (-1), 1) := by decide +kernel
theorem dX11_worst_25 : decode cX11_worst 25 = .ok (.istore_n 3, 1) := by decide +kernel
theorem dX11_worst_26 : decode cX11_worst 26 = .ok (.iconst 0, 1) := by decide +kernel
theorem dX11_worst_27 : decode cX11_worst 27 = .ok (.istore 4, 2) := by decide +kernel
theorem dX11_worst_29 : decode cX11_worst 29 = .ok (.iload 4, 2) := by decide +kernel
theorem dX11_worst_31 : decode cX11_worst 31 = .ok (.aload_n 0, 1) := by decide +kernel
theorem dX11_worst_32 : decode cX11_worst 32 = .ok (.getfield 32, 3) := by decide +kernel
theorem dX11_worst_35 : decode cX11_worst 35 = .ok (.getfield 141, 3) := by decide +kernel
theorem dX11_worst_38 : decode cX11_worst 38 = .ok (.if_icmp .ge 93, 3) := by decide +kernel
theorem dX11_worst_41 : decode cX11_worst 41 = .ok (.aload_n 0, 1) := by decide +kernel
theorem dX11_worst_42 : decode cX11_worst 42 = .ok (.getfield 42, 3) := by decide +kernel
theorem dX11_worst_45 : decode cX11_worst 45 = .ok (.getfield 84, 3) := by decide +kernel
theorem dX11_worst_48 : decode cX11_worst 48 = .ok (.iload 4, 2) := by decide +kernel
theorem dX11_worst_50 : decode cX11_worst 50 = .ok (.invokevirtual 195, 3) := by decide +kernel
theorem dX11_worst_53 : decode cX11_worst 53 = .ok (.ifCond .ne 72, 3) := by decide +kernel
theorem dX11_worst_56 : decode cX11_worst 56 = .ok (.aload_n 0, 1) := by decide +kernel
theorem dX11_worst_57 : decode cX11_worst 57 = .ok (.getfield 56, 3) := by decide +kernel
theorem dX11_worst_60 : decode cX11_worst 60 = .ok (.aload_n 0, 1) := by decide +kernel
theorem dX11_worst_61 : decode cX11_worst 61 = .ok (.getfield 42, 3) := by decide +kernel
theorem dX11_worst_64 : decode cX11_worst 64 = .ok (.getfield 84, 3) := by decide +kernel
theorem dX11_worst_67 : decode cX11_worst 67 = .ok (.invokevirtual 123, 3) := by decide +kernel
theorem dX11_worst_70 : decode cX11_worst 70 = .ok (.aload_n 0, 1) := by decide +kernel
theorem dX11_worst_71 : decode cX11_worst 71 = .ok (.getfield 56, 3) := by decide +kernel
theorem dX11_worst_74 : decode cX11_worst 74 = .ok (.aload_n 0, 1) := by decide +kernel
theorem dX11_worst_75 : decode cX11_worst 75 = .ok (.getfield 32, 3) := by decide +kernel
theorem dX11_worst_78 : decode cX11_worst 78 = .ok (.iload 4, 2) := by decide +kernel
theorem dX11_worst_80 : decode cX11_worst 80 = .ok (.iload_n 1, 1) := by decide +kernel
theorem dX11_worst_81 : decode cX11_worst 81 = .ok (.invokevirtual 243, 3) := by decide +kernel
theorem dX11_worst_84 : decode cX11_worst 84 = .ok (.aload_n 0, 1) := by decide +kernel
theorem dX11_worst_85 : decode cX11_worst 85 = .ok (.getfield 56, 3) := by decide +kernel
theorem dX11_worst_88 : decode cX11_worst 88 = .ok (.aload_n 0, 1) := by decide +kernel
theorem dX11_worst_89 : decode cX11_worst 89 = .ok (.getfield 32, 3) := by decide +kernel
theorem dX11_worst_92 : decode cX11_worst 92 = .ok (.bipush 7, 2) := by decide +kernel
theorem dX11_worst_94 : decode cX11_worst 94 = .ok (.invokevirtual 228, 3) := by decide +kernel
theorem dX11_worst_97 : decode cX11_worst 97 = .ok (.aload_n 0, 1) := by decide +kernel
theorem dX11_worst_98 : decode cX11_worst 98 = .ok (.getfield 56, 3) := by decide +kernel
theorem dX11_worst_101 : decode cX11_worst 101 = .ok (.aload_n 0, 1) := by decide +kernel
theorem dX11_worst_102 : decode cX11_worst 102 = .ok (.getfield 32, 3) := by decide +kernel
theorem dX11_worst_105 : decode cX11_worst 105 = .ok (.invokevirtual 159, 3) := by decide +kernel
theorem dX11_worst_108 : decode cX11_worst 108 = .ok (.invokestatic 286, 3) := by decide +kernel
theorem dX11_worst_111 : decode cX11_worst 111 = .ok (.istore 5, 2) := by decide +kernel
theorem dX11_worst_113 : decode cX11_worst 113 = .ok (.iload 5, 2) := by decide +kernel
theorem dX11_worst_115 : decode cX11_worst 115 = .ok (.iload_n 3, 1) := by decide +kernel
theorem dX11_worst_116 : decode cX11_worst 116 = .ok (.if_icmp .le 9, 3) := by decide +kernel
theorem dX11_worst_119 : decode cX11_worst 119 = .ok (.iload 5, 2) := by decide +kernel
theorem dX11_worst_121 : decode cX11_worst 121 = .ok (.istore_n 3, 1) := by decide +kernel
theorem dX11_worst_122 : decode cX11_worst 122 = .ok (.iload 4, 2) := by decide +kernel
theorem dX11_worst_124 : decode cX11_worst 124 = .ok (.istore_n 2, 1) := by decide +kernel
theorem dX11_worst_125 : decode cX11_worst 125 = .ok (.iinc 4 1, 3) := by decide +kernel
theorem dX11_worst_128 : decode cX11_worst 128 = .ok (.goto (-99), 3) := by decide +kernel
theorem dX11_worst_131 : decode cX11_worst 131 = .ok (.iload_n 2, 1) := by decide +kernel
theorem dX11_worst_132 : decode cX11_worst 132 = .ok (.ireturn, 1) := by decide +kernel
theorem dX11_sent_0 : decode cX11_sent 0 = .ok (.iload_n 1, 1) := by decide +kernel
theorem dX11_sent_1 : decode cX11_sent 1 = .ok (.ifCond .lt 25, 3) := by decide +kernel
theorem dX11_sent_4 : decode cX11_sent 4 = .ok (.iload_n 1, 1) := by decide +kernel
theorem dX11_sent_5 : decode cX11_sent 5 = .ok (.iconst 1, 1) := by decide +kernel
theorem dX11_sent_6 : decode cX11_sent 6 = .ok (.aload_n 0, 1) := by decide +kernel
theorem dX11_sent_7 : decode cX11_sent 7 = .ok (.getfield 32, 3) := by decide +kernel
theorem dX11_sent_10 : decode cX11_sent 10 = .ok (.getfield 141, 3) := by decide +kernel
theorem dX11_sent_13 : decode cX11_sent 13 = .ok (.ishl, 1) := by decide +kernel
theorem dX11_sent_14 : decode cX11_sent 14 = .ok (.if_icmp .ge 12, 3) := by decide +kernel
theorem dX11_sent_17 : decode cX11_sent 17 = .ok (.iload_n 1, 1) := by decide +kernel
theorem dX11_sent_18 : decode cX11_sent 18 = .ok (.invokestatic 286, 3) := by decide +kernel
theorem dX11_sent_21 : decode cX11_sent 21 = .ok (.bipush 6, 2) := by decide +kernel
theorem dX11_sent_23 : decode cX11_sent 23 = .ok (.if_icmp .le 14, 3) := by decide +kernel
theorem dX11_sent_26 : decode cX11_sent 26 = .ok (.new 95, 3) := by decide +kernel
theorem dX11_sent_29 : decode cX11_sent 29 = .ok (.dup, 1) := by decide +kernel
theorem dX11_sent_30 : decode cX11_sent 30 = .ok (.ldc_w 293, 3) := by decide +kernel
theorem dX11_sent_33 : decode cX11_sent 33 = .ok (.invokespecial 99, 3) := by decide +kernel
theorem dX11_sent_36 : decode cX11_sent 36 = .ok (.athrow, 1) := by decide +kernel
theorem dX11_sent_37 : decode cX11_sent 37 = .ok (.iload_n 2, 1) := by decide +kernel
theorem dX11_sent_38 : decode cX11_sent 38 = .ok (.iconst (-1), 1) := by decide +kernel
theorem dX11_sent_39 : decode cX11_sent 39 = .ok (.if_icmp .eq 30, 3) := by decide +kernel
theorem dX11_sent_42 : decode cX11_sent 42 = .ok (.aload_n 0, 1) := by decide +kernel
theorem dX11_sent_43 : decode cX11_sent 43 = .ok (.iload_n 2, 1) := by decide +kernel
theorem dX11_sent_44 : decode cX11_sent 44 = .ok (.invokevirtual 295, 3) := by decide +kernel
theorem dX11_sent_47 : decode cX11_sent 47 = .ok (.ifCond .eq 11, 3) := by decide +kernel
theorem dX11_sent_50 : decode cX11_sent 50 = .ok (.iload_n 1, 1) := by decide +kernel
theorem dX11_sent_51 : decode cX11_sent 51 = .ok (.iload_n 2, 1) := by decide +kernel
theorem dX11_sent_52 : decode cX11_sent 52 = .ok (.ishr, 1) := by decide +kernel
theorem dX11_sent_53 : decode cX11_sent 53 = .ok (.iconst 1, 1) := by decide +kernel
theorem dX11_sent_54 : decode cX11_sent 54 = .ok (.iand, 1) := by decide +kernel
theorem dX11_sent_55 : decode cX11_sent 55 = .ok (.ifCond .ne 14, 3) := by decide +kernel
theorem dX11_sent_58 : decode cX11_sent 58 = .ok (.new 174, 3) := by decide +kernel
theorem dX11_sent_61 : decode cX11_sent 61 = .ok (.dup, 1) := by decide +kernel
theorem dX11_sent_62 : decode cX11_sent 62 = .ok (.ldc_w 298, 3) := by decide +kernel
theorem dX11_sent_65 : decode cX11_sent 65 = .ok (.invokespecial 178, 3) := by decide +kernel
theorem dX11_sent_68 : decode cX11_sent 68 = .ok (.athrow, 1) := by decide +kernel
theorem dX11_sent_69 : decode cX11_sent 69 = .ok (.iload_n 1, 1) := by decide +kernel
theorem dX11_sent_70 : decode cX11_sent 70 = .ok (.invokestatic 286, 3) := by decide +kernel
theorem dX11_sent_73 : decode cX11_sent 73 = .ok (.aload_n 0, 1) := by decide +kernel
theorem dX11_sent_74 : decode cX11_sent 74 = .ok (.getfield 32, 3) := by decide +kernel
theorem dX11_sent_77 : decode cX11_sent 77 = .ok (.getfield 144, 3) := by decide +kernel
theorem dX11_sent_80 : decode cX11_sent 80 = .ok (.if_icmp .le 6, 3) := by decide +kernel
theorem dX11_sent_83 : decode cX11_sent 83 = .ok (.bipush (-2), 2) := by decide +kernel
theorem dX11_sent_85 : decode cX11_sent 85 = .ok (.ireturn, 1) := by decide +kernel
theorem dX11_sent_86 : decode cX11_sent 86 = .ok (.aload_n 0, 1) := by decide +kernel
theorem dX11_sent_87 : decode cX11_sent 87 = .ok (.getfield 76, 3) := by decide +kernel
theorem dX11_sent_90 : decode cX11_sent 90 = .ok (.aload_n 0, 1) := by decide +kernel
theorem dX11_sent_91 : decode cX11_sent 91 = .ok (.getfield 32, 3) := by decide +kernel
theorem dX11_sent_94 : decode cX11_sent 94 = .ok (.aload_n 0, 1) := by decide +kernel
theorem dX11_sent_95 : decode cX11_sent 95 = .ok (.getfield 42, 3) := by decide +kernel
theorem dX11_sent_98 : decode cX11_sent 98 = .ok (.getfield 84, 3) := by decide +kernel
theorem dX11_sent_101 : decode cX11_sent 101 = .ok (.iload_n 1, 1) := by decide +kernel
theorem dX11_sent_102 : decode cX11_sent 102 = .ok (.invokevirtual 300, 3) := by decide +kernel
theorem dX11_sent_105 : decode cX11_sent 105 = .ok (.iload_n 2, 1) := by decide +kernel
theorem dX11_sent_106 : decode cX11_sent 106 = .ok (.iconst (-1), 1) := by decide +kernel
theorem dX11_sent_107 : decode cX11_sent 107 = .ok (.if_icmp .ne 13, 3) := by decide +kernel
theorem dX11_sent_110 : decode cX11_sent 110 = .ok (.aload_n 0, 1) := by decide +kernel
theorem dX11_sent_111 : decode cX11_sent 111 = .ok (.getfield 76, 3) := by decide +kernel
theorem dX11_sent_114 : decode cX11_sent 114 = .ok (.invokevirtual 304, 3) := by decide +kernel
theorem dX11_sent_117 : decode cX11_sent 117 = .ok (.goto 22, 3) := by decide +kernel
theorem dX11_sent_120 : decode cX11_sent 120 = .ok (.aload_n 0, 1) := by decide +kernel
theorem dX11_sent_121 : decode cX11_sent 121 = .ok (.getfield 76, 3) := by decide +kernel
theorem dX11_sent_124 : decode cX11_sent 124 = .ok (.aload_n 0, 1) := by decide +kernel
theorem dX11_sent_125 : decode cX11_sent 125 = .ok (.getfield 32, 3) := by decide +kernel
theorem dX11_sent_128 : decode cX11_sent 128 = .ok (.aload_n 0, 1) := by decide +kernel
theorem dX11_sent_129 : decode cX11_sent 129 = .ok (.getfield 42, 3) := by decide +kernel
theorem dX11_sent_132 : decode cX11_sent 132 = .ok (.getfield 84, 3) := by decide +kernel
theorem dX11_sent_135 : decode cX11_sent 135 = .ok (.iload_n 2, 1) := by decide +kernel
theorem dX11_sent_136 : decode cX11_sent 136 = .ok (.invokevirtual 307, 3) := by decide +kernel
theorem dX11_sent_139 : decode cX11_sent 139 = .ok (.ireturn, 1) := by decide +kernel
theorem dX11_closed_0 : decode cX11_closed 0 = .ok (.iload_n 1, 1) := by decide +kernel
theorem dX11_closed_1 : decode cX11_closed 1 = .ok (.iconst 1, 1) := by decide +kernel
theorem dX11_closed_2 : decode cX11_closed 2 = .ok (.invokestatic 250, 3) := by decide +kernel
theorem dX11_closed_5 : decode cX11_closed 5 = .ok (.iconst 0, 1) := by decide +kernel
theorem dX11_closed_6 : decode cX11_closed 6 = .ok (.istore_n 2, 1) := by decide +kernel
theorem dX11_closed_7 : decode cX11_closed 7 = .ok (.iconst (-1), 1) := by decide +kernel
theorem dX11_closed_8 : decode cX11_closed 8 = .ok (.istore_n 3, 1) := by decide +kernel
theorem dX11_closed_9 : decode cX11_closed 9 = .ok (.iconst 0, 1) := by decide +kernel
theorem dX11_closed_10 : decode cX11_closed 10 = .ok (.istore 4, 2) := by decide +kernel
theorem dX11_closed_12 : decode cX11_closed 12 = .ok (.iload 4, 2) := by decide +kernel
theorem dX11_closed_14 : decode cX11_closed 14 = .ok (.aload_n 0, 1) := by decide +kernel
theorem dX11_closed_15 : decode cX11_closed 15 = .ok (.getfield 32, 3) := by decide +kernel
theorem dX11_closed_18 : decode cX11_closed 18 = .ok (.getfield 141, 3) := by decide +kernel
theorem dX11_closed_21 : decode cX11_closed 21 = .ok (.if_icmp .ge 29, 3) := by decide +kernel
theorem dX11_closed_24 : decode cX11_closed 24 = .ok (.aload_n 0, 1) := by decide +kernel
theorem dX11_closed_25 : decode cX11_closed 25 = .ok (.iload 4, 2) := by decide +kernel
theorem dX11_closed_27 : decode cX11_closed 27 = .ok (.invokevirtual 311, 3) := by decide +kernel
theorem dX11_closed_30 : decode cX11_closed 30 = .ok (.istore 5, 2) := by decide +kernel
theorem dX11_closed_32 : decode cX11_closed 32 = .ok (.iload 5, 2) := by decide +kernel
theorem dX11_closed_34 : decode cX11_closed 34 = .ok (.iload_n 2, 1) := by decide +kernel
theorem dX11_closed_35 : decode cX11_closed 35 = .ok (.if_icmp .le 9, 3) := by decide +kernel
theorem dX11_closed_38 : decode cX11_closed 38 = .ok (.iload 5, 2) := by decide +kernel
theorem dX11_closed_40 : decode cX11_closed 40 = .ok (.istore_n 2, 1) := by decide +kernel
theorem dX11_closed_41 : decode cX11_closed 41 = .ok (.iload 4, 2) := by decide +kernel
theorem dX11_closed_43 : decode cX11_closed 43 = .ok (.istore_n 3, 1) := by decide +kernel
theorem dX11_closed_44 : decode cX11_closed 44 = .ok (.iinc 4 1, 3) := by decide +kernel
theorem dX11_closed_47 : decode cX11_closed 47 = .ok (.goto (-35), 3) := by decide +kernel
theorem dX11_closed_50 : decode cX11_closed 50 = .ok (.iload_n 1, 1) := by decide +kernel
theorem dX11_closed_51 : decode cX11_closed 51 = .ok (.ifCond .ne 7, 3) := by decide +kernel
theorem dX11_closed_54 : decode cX11_closed 54 = .ok (.iload_n 2, 1) := by decide +kernel
theorem dX11_closed_55 : decode cX11_closed 55 = .ok (.goto 4, 3) := by decide +kernel
theorem dX11_closed_58 : decode cX11_closed 58 = .ok (.iload_n 3, 1) := by decide +kernel
theorem dX11_closed_59 : decode cX11_closed 59 = .ok (.ireturn, 1) := by decide +kernel
theorem dX11_closedFrom_0 : decode cX11_closedFrom 0 = .ok (.iload_n 1, 1) := by decide +kernel
theorem dX11_closedFrom_1 : decode cX11_closedFrom 1 = .ok (.istore_n 2, 1) := by decide +kernel
theorem dX11_closedFrom_2 : decode cX11_closedFrom 2 = .ok (.iconst 0, 1) := by decide +kernel
theorem dX11_closedFrom_3 : decode cX11_closedFrom 3 = .ok (.istore_n 3, 1) := by decide +kernel
theorem dX11_closedFrom_4 : decode cX11_closedFrom 4 = .ok (.iload_n 3, 1) := by decide +kernel
theorem dX11_closedFrom_5 : decode cX11_closedFrom 5 = .ok (.aload_n 0, 1) := by decide +kernel
theorem dX11_closedFrom_6 : decode cX11_closedFrom 6 = .ok (.getfield 32, 3) := by decide +kernel
theorem dX11_closedFrom_9 : decode cX11_closedFrom 9 = .ok (.getfield 141, 3) := by decide +kernel
theorem dX11_closedFrom_12 : decode cX11_closedFrom 12 = .ok (.if_icmp .ge 34, 3) := by decide +kernel
theorem dX11_closedFrom_15 : decode cX11_closedFrom 15 = .ok (.aload_n 0, 1) := by decide +kernel
theorem dX11_closedFrom_16 : decode cX11_closedFrom 16 = .ok (.getfield 42, 3) := by decide +kernel
theorem dX11_closedFrom_19 : decode cX11_closedFrom 19 = .ok (.getfield 84, 3) := by decide +kernel
theorem dX11_closedFrom_22 : decode cX11_closedFrom 22 = .ok (.iload_n 2, 1) := by decide +kernel
theorem dX11_closedFrom_23 : decode cX11_closedFrom 23 = .ok (.invokevirtual 195, 3) := by decide +kernel
theorem dX11_closedFrom_26 : decode cX11_closedFrom 26 = .ok (.ifCond .eq 5, 3) := by decide +kernel
theorem dX11_closedFrom_29 : decode cX11_closedFrom 29 = .ok (.iload_n 3, 1) := by decide +kernel
theorem dX11_closedFrom_30 : decode cX11_closedFrom 30 = .ok (.ireturn, 1) := by decide +kernel
theorem dX11_closedFrom_31 : decode cX11_closedFrom 31 = .ok (.aload_n 0, 1) := by decide +kernel
theorem dX11_closedFrom_32 : decode cX11_closedFrom 32 = .ok (.getfield 32, 3) := by decide +kernel
theorem dX11_closedFrom_35 : decode cX11_closedFrom 35 = .ok (.iload_n 2, 1) := by decide +kernel
theorem dX11_closedFrom_36 : decode cX11_closedFrom 36 = .ok (.invokevirtual 314, 3) := by decide +kernel
theorem dX11_closedFrom_39 : decode cX11_closedFrom 39 = .ok (.istore_n 2, 1) := by decide +kernel
theorem dX11_closedFrom_40 : decode cX11_closedFrom 40 = .ok (.iinc 3 1, 3) := by decide +kernel
theorem dX11_closedFrom_43 : decode cX11_closedFrom 43 = .ok (.goto (-39), 3) := by decide +kernel
theorem dX11_closedFrom_46 : decode cX11_closedFrom 46 = .ok (.aload_n 0, 1) := by decide +kernel
theorem dX11_closedFrom_47 : decode cX11_closedFrom 47 = .ok (.getfield 32, 3) := by decide +kernel
theorem dX11_closedFrom_50 : decode cX11_closedFrom 50 = .ok (.getfield 141, 3) := by decide +kernel
theorem dX11_closedFrom_53 : decode cX11_closedFrom 53 = .ok (.ireturn, 1) := by decide +kernel
theorem dX11_tight_0 : decode cX11_tight 0 = .ok (.iload_n 2, 1) := by decide +kernel
theorem dX11_tight_1 : decode cX11_tight 1 = .ok (.iconst 1, 1) := by decide +kernel
theorem dX11_tight_2 : decode cX11_tight 2 = .ok (.invokestatic 250, 3) := by decide +kernel
theorem dX11_tight_5 : decode cX11_tight 5 = .ok (.iload_n 1, 1) := by decide +kernel
theorem dX11_tight_6 : decode cX11_tight 6 = .ok (.iconst 1, 1) := by decide +kernel
theorem dX11_tight_7 : decode cX11_tight 7 = .ok (.if_icmp .lt 9, 3) := by decide +kernel
theorem dX11_tight_10 : decode cX11_tight 10 = .ok (.iload_n 1, 1) := by decide +kernel
theorem dX11_tight_11 : decode cX11_tight 11 = .ok (.bipush 12, 2) := by decide +kernel
theorem dX11_tight_13 : decode cX11_tight 13 = .ok (.if_icmp .le 14, 3) := by decide +kernel
theorem dX11_tight_16 : decode cX11_tight 16 = .ok (.new 95, 3) := by decide +kernel
theorem dX11_tight_19 : decode cX11_tight 19 = .ok (.dup, 1) := by decide +kernel
theorem dX11_tight_20 : decode cX11_tight 20 = .ok (.ldc_w 317, 3) := by decide +kernel
theorem dX11_tight_23 : decode cX11_tight 23 = .ok (.invokespecial 99, 3) := by decide +kernel
theorem dX11_tight_26 : decode cX11_tight 26 = .ok (.athrow, 1) := by decide +kernel
theorem dX11_tight_27 : decode cX11_tight 27 = .ok (.iload_n 1, 1) := by decide +kernel
theorem dX11_tight_28 : decode cX11_tight 28 = .ok (.aload_n 0, 1) := by decide +kernel
theorem dX11_tight_29 : decode cX11_tight 29 = .ok (.getfield 32, 3) := by decide +kernel
theorem dX11_tight_32 : decode cX11_tight 32 = .ok (.getfield 141, 3) := by decide +kernel
theorem dX11_tight_35 : decode cX11_tight 35 = .ok (.if_icmp .le 5, 3) := by decide +kernel
theorem dX11_tight_38 : decode cX11_tight 38 = .ok (.iconst (-1), 1) := by decide +kernel
theorem dX11_tight_39 : decode cX11_tight 39 = .ok (.ireturn, 1) := by decide +kernel
theorem dX11_tight_40 : decode cX11_tight 40 = .ok (.iconst (-1), 1) := by decide +kernel
theorem dX11_tight_41 : decode cX11_tight 41 = .ok (.istore_n 3, 1) := by decide +kernel
theorem dX11_tight_42 : decode cX11_tight 42 = .ok (.iconst (-1), 1) := by decide +kernel
theorem dX11_tight_43 : decode cX11_tight 43 = .ok (.istore 4, 2) := by decide +kernel
theorem dX11_tight_45 : decode cX11_tight 45 = .ok (.iconst 0, 1) := by decide +kernel
theorem dX11_tight_46 : decode cX11_tight 46 = .ok (.istore 5, 2) := by decide +kernel
theorem dX11_tight_48 : decode cX11_tight 48 = .ok (.iload 5, 2) := by decide +kernel
theorem dX11_tight_50 : decode cX11_tight 50 = .ok (.aload_n 0, 1) := by decide +kernel
theorem dX11_tight_51 : decode cX11_tight 51 = .ok (.getfield 32, 3) := by decide +kernel
theorem dX11_tight_54 : decode cX11_tight 54 = .ok (.getfield 141, 3) := by decide +kernel
theorem dX11_tight_57 : decode cX11_tight 57 = .ok (.if_icmp .ge 31, 3) := by decide +kernel
theorem dX11_tight_60 : decode cX11_tight 60 = .ok (.aload_n 0, 1) := by decide +kernel
theorem dX11_tight_61 : decode cX11_tight 61 = .ok (.iload 5, 2) := by decide +kernel
theorem dX11_tight_63 : decode cX11_tight 63 = .ok (.iload_n 1, 1) := by decide +kernel
theorem dX11_tight_64 : decode cX11_tight 64 = .ok (.invokevirtual 319, 3) := by decide +kernel
theorem dX11_tight_67 : decode cX11_tight 67 = .ok (.istore 6, 2) := by decide +kernel
theorem dX11_tight_69 : decode cX11_tight 69 = .ok (.iload 6, 2) := by decide +kernel
theorem dX11_tight_71 : decode cX11_tight 71 = .ok (.iload_n 3, 1) := by decide +kernel
theorem dX11_tight_72 : decode cX11_tight 72 = .ok (.if_icmp .le 10, 3) := by decide +kernel
theorem dX11_tight_75 : decode cX11_tight 75 = .ok (.iload 6, 2) := by decide +kernel
theorem dX11_tight_77 : decode cX11_tight 77 = .ok (.istore_n 3, 1) := by decide +kernel
theorem dX11_tight_78 : decode cX11_tight 78 = .ok (.iload 5, 2) := by decide +kernel
theorem dX11_tight_80 : decode cX11_tight 80 = .ok (.istore 4, 2) := by decide +kernel
theorem dX11_tight_82 : decode cX11_tight 82 = .ok (.iinc 5 1, 3) := by decide +kernel
theorem dX11_tight_85 : decode cX11_tight 85 = .ok (.goto (-37), 3) := by decide +kernel
theorem dX11_tight_88 : decode cX11_tight 88 = .ok (.iload_n 2, 1) := by decide +kernel
theorem dX11_tight_89 : decode cX11_tight 89 = .ok (.ifCond .ne 7, 3) := by decide +kernel
theorem dX11_tight_92 : decode cX11_tight 92 = .ok (.iload_n 3, 1) := by decide +kernel
theorem dX11_tight_93 : decode cX11_tight 93 = .ok (.goto 5, 3) := by decide +kernel
theorem dX11_tight_96 : decode cX11_tight 96 = .ok (.iload 4, 2) := by decide +kernel
theorem dX11_tight_98 : decode cX11_tight 98 = .ok (.ireturn, 1) := by decide +kernel
theorem dX11_strainFrom_0 : decode cX11_strainFrom 0 = .ok (.iconst 0, 1) := by decide +kernel
theorem dX11_strainFrom_1 : decode cX11_strainFrom 1 = .ok (.istore_n 3, 1) := by decide +kernel
theorem dX11_strainFrom_2 : decode cX11_strainFrom 2 = .ok (.iload_n 1, 1) := by decide +kernel
theorem dX11_strainFrom_3 : decode cX11_strainFrom 3 = .ok (.istore 4, 2) := by decide +kernel
theorem dX11_strainFrom_5 : decode cX11_strainFrom 5 = .ok (.iconst 0, 1) := by decide +kernel
theorem dX11_strainFrom_6 : decode cX11_strainFrom 6 = .ok (.istore 5, 2) := by decide +kernel
theorem dX11_strainFrom_8 : decode cX11_strainFrom 8 = .ok (.iload 5, 2) := by decide +kernel
theorem dX11_strainFrom_10 : decode cX11_strainFrom 10 = .ok (.iload_n 2, 1) := by decide +kernel
theorem dX11_strainFrom_11 : decode cX11_strainFrom 11 = .ok (.if_icmp .ge 36, 3) := by decide +kernel
theorem dX11_strainFrom_14 : decode cX11_strainFrom 14 = .ok (.iload_n 3, 1) := by decide +kernel
theorem dX11_strainFrom_15 : decode cX11_strainFrom 15 = .ok (.aload_n 0, 1) := by decide +kernel
theorem dX11_strainFrom_16 : decode cX11_strainFrom 16 = .ok (.getfield 42, 3) := by decide +kernel
theorem dX11_strainFrom_19 : decode cX11_strainFrom 19 = .ok (.getfield 84, 3) := by decide +kernel
theorem dX11_strainFrom_22 : decode cX11_strainFrom 22 = .ok (.getfield 182, 3) := by decide +kernel
theorem dX11_strainFrom_25 : decode cX11_strainFrom 25 = .ok (.iload 4, 2) := by decide +kernel
theorem dX11_strainFrom_27 : decode cX11_strainFrom 27 = .ok (.iaload, 1) := by decide +kernel
theorem dX11_strainFrom_28 : decode cX11_strainFrom 28 = .ok (.iadd, 1) := by decide +kernel
theorem dX11_strainFrom_29 : decode cX11_strainFrom 29 = .ok (.istore_n 3, 1) := by decide +kernel
theorem dX11_strainFrom_30 : decode cX11_strainFrom 30 = .ok (.aload_n 0, 1) := by decide +kernel
theorem dX11_strainFrom_31 : decode cX11_strainFrom 31 = .ok (.getfield 32, 3) := by decide +kernel
theorem dX11_strainFrom_34 : decode cX11_strainFrom 34 = .ok (.iload 4, 2) := by decide +kernel
theorem dX11_strainFrom_36 : decode cX11_strainFrom 36 = .ok (.invokevirtual 314, 3) := by decide +kernel
theorem dX11_strainFrom_39 : decode cX11_strainFrom 39 = .ok (.istore 4, 2) := by decide +kernel
theorem dX11_strainFrom_41 : decode cX11_strainFrom 41 = .ok (.iinc 5 1, 3) := by decide +kernel
theorem dX11_strainFrom_44 : decode cX11_strainFrom 44 = .ok (.goto (-36), 3) := by decide +kernel
theorem dX11_strainFrom_47 : decode cX11_strainFrom 47 = .ok (.iload_n 3, 1) := by decide +kernel
theorem dX11_strainFrom_48 : decode cX11_strainFrom 48 = .ok (.ireturn, 1) := by decide +kernel
theorem dX11_gaps_0 : decode cX11_gaps 0 = .ok (.aload_n 0, 1) := by decide +kernel
theorem dX11_gaps_1 : decode cX11_gaps 1 = .ok (.aload_n 0, 1) := by decide +kernel
theorem dX11_gaps_2 : decode cX11_gaps 2 = .ok (.getfield 42, 3) := by decide +kernel
theorem dX11_gaps_5 : decode cX11_gaps 5 = .ok (.getfield 84, 3) := by decide +kernel
theorem dX11_gaps_8 : decode cX11_gaps 8 = .ok (.aload_n 0, 1) := by decide +kernel
theorem dX11_gaps_9 : decode cX11_gaps 9 = .ok (.getfield 32, 3) := by decide +kernel
theorem dX11_gaps_12 : decode cX11_gaps 12 = .ok (.invokevirtual 159, 3) := by decide +kernel
theorem dX11_gaps_15 : decode cX11_gaps 15 = .ok (.invokevirtual 323, 3) := by decide +kernel
theorem dX11_gaps_18 : decode cX11_gaps 18 = .ok (.ireturn, 1) := by decide +kernel
theorem dX11_load_0 : decode cX11_load 0 = .ok (.iload_n 1, 1) := by decide +kernel
theorem dX11_load_1 : decode cX11_load 1 = .ok (.ifCond .lt 9, 3) := by decide +kernel
theorem dX11_load_4 : decode cX11_load 4 = .ok (.iload_n 1, 1) := by decide +kernel
theorem dX11_load_5 : decode cX11_load 5 = .ok (.bipush 99, 2) := by decide +kernel
theorem dX11_load_7 : decode cX11_load 7 = .ok (.if_icmp .le 14, 3) := by decide +kernel
theorem dX11_load_10 : decode cX11_load 10 = .ok (.new 95, 3) := by decide +kernel
theorem dX11_load_13 : decode cX11_load 13 = .ok (.dup, 1) := by decide +kernel
theorem dX11_load_14 : decode cX11_load 14 = .ok (.ldc_w 326, 3) := by decide +kernel
theorem dX11_load_17 : decode cX11_load 17 = .ok (.invokespecial 99, 3) := by decide +kernel
theorem dX11_load_20 : decode cX11_load 20 = .ok (.athrow, 1) := by decide +kernel
theorem dX11_load_21 : decode cX11_load 21 = .ok (.aload_n 0, 1) := by decide +kernel
theorem dX11_load_22 : decode cX11_load 22 = .ok (.aload_n 0, 1) := by decide +kernel
theorem dX11_load_23 : decode cX11_load 23 = .ok (.getfield 42, 3) := by decide +kernel
theorem dX11_load_26 : decode cX11_load 26 = .ok (.getfield 84, 3) := by decide +kernel
theorem dX11_load_29 : decode cX11_load 29 = .ok (.aload_n 0, 1) := by decide +kernel
theorem dX11_load_30 : decode cX11_load 30 = .ok (.getfield 32, 3) := by decide +kernel
theorem dX11_load_33 : decode cX11_load 33 = .ok (.iload_n 1, 1) := by decide +kernel
theorem dX11_load_34 : decode cX11_load 34 = .ok (.invokevirtual 328, 3) := by decide +kernel
theorem dX11_load_37 : decode cX11_load 37 = .ok (.invokevirtual 323, 3) := by decide +kernel
theorem dX11_load_40 : decode cX11_load 40 = .ok (.ireturn, 1) := by decide +kernel
theorem dX11_rowsOf_0 : decode cX11_rowsOf 0 = .ok (.iconst 0, 1) := by decide +kernel
theorem dX11_rowsOf_1 : decode cX11_rowsOf 1 = .ok (.istore_n 2, 1) := by decide +kernel
theorem dX11_rowsOf_2 : decode cX11_rowsOf 2 = .ok (.iconst 0, 1) := by decide +kernel
theorem dX11_rowsOf_3 : decode cX11_rowsOf 3 = .ok (.istore_n 3, 1) := by decide +kernel
theorem dX11_rowsOf_4 : decode cX11_rowsOf 4 = .ok (.iload_n 3, 1) := by decide +kernel
theorem dX11_rowsOf_5 : decode cX11_rowsOf 5 = .ok (.aload_n 0, 1) := by decide +kernel
theorem dX11_rowsOf_6 : decode cX11_rowsOf 6 = .ok (.getfield 32, 3) := by decide +kernel
theorem dX11_rowsOf_9 : decode cX11_rowsOf 9 = .ok (.getfield 141, 3) := by decide +kernel
theorem dX11_rowsOf_12 : decode cX11_rowsOf 12 = .ok (.if_icmp .ge 36, 3) := by decide +kernel
theorem dX11_rowsOf_15 : decode cX11_rowsOf 15 = .ok (.iload_n 1, 1) := by decide +kernel
theorem dX11_rowsOf_16 : decode cX11_rowsOf 16 = .ok (.iload_n 3, 1) := by decide +kernel
theorem dX11_rowsOf_17 : decode cX11_rowsOf 17 = .ok (.ishr, 1) := by decide +kernel
theorem dX11_rowsOf_18 : decode cX11_rowsOf 18 = .ok (.iconst 1, 1) := by decide +kernel
theorem dX11_rowsOf_19 : decode cX11_rowsOf 19 = .ok (.iand, 1) := by decide +kernel
theorem dX11_rowsOf_20 : decode cX11_rowsOf 20 = .ok (.iconst 1, 1) := by decide +kernel
theorem dX11_rowsOf_21 : decode cX11_rowsOf 21 = .ok (.if_icmp .ne 21, 3) := by decide +kernel
theorem dX11_rowsOf_24 : decode cX11_rowsOf 24 = .ok (.iload_n 1, 1) := by decide +kernel
theorem dX11_rowsOf_25 : decode cX11_rowsOf 25 = .ok (.aload_n 0, 1) := by decide +kernel
theorem dX11_rowsOf_26 : decode cX11_rowsOf 26 = .ok (.getfield 32, 3) := by decide +kernel
theorem dX11_rowsOf_29 : decode cX11_rowsOf 29 = .ok (.iload_n 3, 1) := by decide +kernel
theorem dX11_rowsOf_30 : decode cX11_rowsOf 30 = .ok (.invokevirtual 331, 3) := by decide +kernel
theorem dX11_rowsOf_33 : decode cX11_rowsOf 33 = .ok (.ishr, 1) := by decide +kernel
theorem dX11_rowsOf_34 : decode cX11_rowsOf 34 = .ok (.iconst 1, 1) := by decide +kernel
theorem dX11_rowsOf_35 : decode cX11_rowsOf 35 = .ok (.iand, 1) := by decide +kernel
theorem dX11_rowsOf_36 : decode cX11_rowsOf 36 = .ok (.ifCond .ne 6, 3) := by decide +kernel
theorem dX11_rowsOf_39 : decode cX11_rowsOf 39 = .ok (.iinc 2 1, 3) := by decide +kernel
theorem dX11_rowsOf_42 : decode cX11_rowsOf 42 = .ok (.iinc 3 1, 3) := by decide +kernel
theorem dX11_rowsOf_45 : decode cX11_rowsOf 45 = .ok (.goto (-41), 3) := by decide +kernel
theorem dX11_rowsOf_48 : decode cX11_rowsOf 48 = .ok (.iload_n 2, 1) := by decide +kernel
theorem dX11_rowsOf_49 : decode cX11_rowsOf 49 = .ok (.ifCond .ne 11, 3) := by decide +kernel
theorem dX11_rowsOf_52 : decode cX11_rowsOf 52 = .ok (.iload_n 1, 1) := by decide +kernel
theorem dX11_rowsOf_53 : decode cX11_rowsOf 53 = .ok (.ifCond .eq 7, 3) := by decide +kernel
theorem dX11_rowsOf_56 : decode cX11_rowsOf 56 = .ok (.iconst 1, 1) := by decide +kernel
theorem dX11_rowsOf_57 : decode cX11_rowsOf 57 = .ok (.goto 4, 3) := by decide +kernel
theorem dX11_rowsOf_60 : decode cX11_rowsOf 60 = .ok (.iload_n 2, 1) := by decide +kernel
theorem dX11_rowsOf_61 : decode cX11_rowsOf 61 = .ok (.ireturn, 1) := by decide +kernel
theorem dX11_nearest_0 : decode cX11_nearest 0 = .ok (.aload_n 0, 1) := by decide +kernel
theorem dX11_nearest_1 : decode cX11_nearest 1 = .ok (.iload_n 1, 1) := by decide +kernel
theorem dX11_nearest_2 : decode cX11_nearest 2 = .ok (.invokevirtual 179, 3) := by decide +kernel
theorem dX11_nearest_5 : decode cX11_nearest 5 = .ok (.iconst (-1), 1) := by decide +kernel
theorem dX11_nearest_6 : decode cX11_nearest 6 = .ok (.istore_n 2, 1) := by decide +kernel
theorem dX11_nearest_7 : decode cX11_nearest 7 = .ok (.bipush 12, 2) := by decide +kernel
theorem dX11_nearest_9 : decode cX11_nearest 9 = .ok (.istore_n 3, 1) := by decide +kernel
theorem dX11_nearest_10 : decode cX11_nearest 10 = .ok (.iconst 0, 1) := by decide +kernel
theorem dX11_nearest_11 : decode cX11_nearest 11 = .ok (.istore 4, 2) := by decide +kernel
theorem dX11_nearest_13 : decode cX11_nearest 13 = .ok (.iload 4, 2) := by decide +kernel
theorem dX11_nearest_15 : decode cX11_nearest 15 = .ok (.aload_n 0, 1) := by decide +kernel
theorem dX11_nearest_16 : decode cX11_nearest 16 = .ok (.getfield 32, 3) := by decide +kernel
theorem dX11_nearest_19 : decode cX11_nearest 19 = .ok (.getfield 144, 3) := by decide +kernel
theorem dX11_nearest_22 : decode cX11_nearest 22 = .ok (.if_icmp .ge 44, 3) := by decide +kernel
theorem dX11_nearest_25 : decode cX11_nearest 25 = .ok (.aload_n 0, 1) := by decide +kernel
theorem dX11_nearest_26 : decode cX11_nearest 26 = .ok (.getfield 32, 3) := by decide +kernel
theorem dX11_nearest_29 : decode cX11_nearest 29 = .ok (.aload_n 0, 1) := by decide +kernel
theorem dX11_nearest_30 : decode cX11_nearest 30 = .ok (.getfield 42, 3) := by decide +kernel
theorem dX11_nearest_33 : decode cX11_nearest 33 = .ok (.getfield 84, 3) := by decide +kernel
theorem dX11_nearest_36 : decode cX11_nearest 36 = .ok (.getfield 213, 3) := by decide +kernel
theorem dX11_nearest_39 : decode cX11_nearest 39 = .ok (.iload 4, 2) := by decide +kernel
theorem dX11_nearest_41 : decode cX11_nearest 41 = .ok (.iaload, 1) := by decide +kernel
theorem dX11_nearest_42 : decode cX11_nearest 42 = .ok (.iload_n 1, 1) := by decide +kernel
theorem dX11_nearest_43 : decode cX11_nearest 43 = .ok (.invokevirtual 334, 3) := by decide +kernel
theorem dX11_nearest_46 : decode cX11_nearest 46 = .ok (.istore 5, 2) := by decide +kernel
theorem dX11_nearest_48 : decode cX11_nearest 48 = .ok (.iload 5, 2) := by decide +kernel
theorem dX11_nearest_50 : decode cX11_nearest 50 = .ok (.iload_n 3, 1) := by decide +kernel
theorem dX11_nearest_51 : decode cX11_nearest 51 = .ok (.if_icmp .ge 9, 3) := by decide +kernel
theorem dX11_nearest_54 : decode cX11_nearest 54 = .ok (.iload 5, 2) := by decide +kernel
theorem dX11_nearest_56 : decode cX11_nearest 56 = .ok (.istore_n 3, 1) := by decide +kernel
theorem dX11_nearest_57 : decode cX11_nearest 57 = .ok (.iload 4, 2) := by decide +kernel
theorem dX11_nearest_59 : decode cX11_nearest 59 = .ok (.istore_n 2, 1) := by decide +kernel
theorem dX11_nearest_60 : decode cX11_nearest 60 = .ok (.iinc 4 1, 3) := by decide +kernel
theorem dX11_nearest_63 : decode cX11_nearest 63 = .ok (.goto (-50), 3) := by decide +kernel
theorem dX11_nearest_66 : decode cX11_nearest 66 = .ok (.iload_n 2, 1) := by decide +kernel
theorem dX11_nearest_67 : decode cX11_nearest 67 = .ok (.ireturn, 1) := by decide +kernel
theorem dX11_far_0 : decode cX11_far 0 = .ok (.aload_n 0, 1) := by decide +kernel
theorem dX11_far_1 : decode cX11_far 1 = .ok (.iload_n 1, 1) := by decide +kernel
theorem dX11_far_2 : decode cX11_far 2 = .ok (.invokevirtual 179, 3) := by decide +kernel
theorem dX11_far_5 : decode cX11_far 5 = .ok (.aload_n 0, 1) := by decide +kernel
theorem dX11_far_6 : decode cX11_far 6 = .ok (.iload_n 2, 1) := by decide +kernel
theorem dX11_far_7 : decode cX11_far 7 = .ok (.invokevirtual 179, 3) := by decide +kernel
theorem dX11_far_10 : decode cX11_far 10 = .ok (.aload_n 0, 1) := by decide +kernel
theorem dX11_far_11 : decode cX11_far 11 = .ok (.getfield 32, 3) := by decide +kernel
theorem dX11_far_14 : decode cX11_far 14 = .ok (.iload_n 1, 1) := by decide +kernel
theorem dX11_far_15 : decode cX11_far 15 = .ok (.iload_n 2, 1) := by decide +kernel
theorem dX11_far_16 : decode cX11_far 16 = .ok (.invokevirtual 334, 3) := by decide +kernel
theorem dX11_far_19 : decode cX11_far 19 = .ok (.ireturn, 1) := by decide +kernel
theorem dX11_readings_0 : decode cX11_readings 0 = .ok (.iload_n 2, 1) := by decide +kernel
theorem dX11_readings_1 : decode cX11_readings 1 = .ok (.iconst 1, 1) := by decide +kernel
theorem dX11_readings_2 : decode cX11_readings 2 = .ok (.invokestatic 250, 3) := by decide +kernel
theorem dX11_readings_5 : decode cX11_readings 5 = .ok (.iload_n 1, 1) := by decide +kernel
theorem dX11_readings_6 : decode cX11_readings 6 = .ok (.ifCond .lt 10, 3) := by decide +kernel
theorem dX11_readings_9 : decode cX11_readings 9 = .ok (.iload_n 1, 1) := by decide +kernel
theorem dX11_readings_10 : decode cX11_readings 10 = .ok (.ldc_w 337, 3) := by decide +kernel
theorem dX11_readings_13 : decode cX11_readings 13 = .ok (.if_icmp .le 14, 3) := by decide +kernel
theorem dX11_readings_16 : decode cX11_readings 16 = .ok (.new 95, 3) := by decide +kernel
theorem dX11_readings_19 : decode cX11_readings 19 = .ok (.dup, 1) := by decide +kernel
theorem dX11_readings_20 : decode cX11_readings 20 = .ok (.ldc_w 338, 3) := by decide +kernel
theorem dX11_readings_23 : decode cX11_readings 23 = .ok (.invokespecial 99, 3) := by decide +kernel
theorem dX11_readings_26 : decode cX11_readings 26 = .ok (.athrow, 1) := by decide +kernel
theorem dX11_readings_27 : decode cX11_readings 27 = .ok (.aload_n 0, 1) := by decide +kernel
theorem dX11_readings_28 : decode cX11_readings 28 = .ok (.getfield 32, 3) := by decide +kernel
theorem dX11_readings_31 : decode cX11_readings 31 = .ok (.getfield 147, 3) := by decide +kernel
theorem dX11_readings_34 : decode cX11_readings 34 = .ok (.iload_n 1, 1) := by decide +kernel
theorem dX11_readings_35 : decode cX11_readings 35 = .ok (.invokevirtual 340, 3) := by decide +kernel
theorem dX11_readings_38 : decode cX11_readings 38 = .ok (.iload_n 2, 1) := by decide +kernel
theorem dX11_readings_39 : decode cX11_readings 39 = .ok (.ifCond .ne 18, 3) := by decide +kernel
theorem dX11_readings_42 : decode cX11_readings 42 = .ok (.aload_n 0, 1) := by decide +kernel
theorem dX11_readings_43 : decode cX11_readings 43 = .ok (.getfield 32, 3) := by decide +kernel
theorem dX11_readings_46 : decode cX11_readings 46 = .ok (.getfield 147, 3) := by decide +kernel
theorem dX11_readings_49 : decode cX11_readings 49 = .ok (.getfield 343, 3) := by decide +kernel
theorem dX11_readings_52 : decode cX11_readings 52 = .ok (.iconst 0, 1) := by decide +kernel
theorem dX11_readings_53 : decode cX11_readings 53 = .ok (.iaload, 1) := by decide +kernel
theorem dX11_readings_54 : decode cX11_readings 54 = .ok (.goto 15, 3) := by decide +kernel
theorem dX11_readings_57 : decode cX11_readings 57 = .ok (.aload_n 0, 1) := by decide +kernel
theorem dX11_readings_58 : decode cX11_readings 58 = .ok (.getfield 32, 3) := by decide +kernel
theorem dX11_readings_61 : decode cX11_readings 61 = .ok (.getfield 147, 3) := by decide +kernel
theorem dX11_readings_64 : decode cX11_readings 64 = .ok (.getfield 346, 3) := by decide +kernel
theorem dX11_readings_67 : decode cX11_readings 67 = .ok (.iconst 0, 1) := by decide +kernel
theorem dX11_readings_68 : decode cX11_readings 68 = .ok (.iaload, 1) := by decide +kernel
theorem dX11_readings_69 : decode cX11_readings 69 = .ok (.ireturn, 1) := by decide +kernel
theorem dX11_see_0 : decode cX11_see 0 = .ok (.aload_n 0, 1) := by decide +kernel
theorem dX11_see_1 : decode cX11_see 1 = .ok (.iload_n 1, 1) := by decide +kernel
theorem dX11_see_2 : decode cX11_see 2 = .ok (.invokevirtual 179, 3) := by decide +kernel
theorem dX11_see_5 : decode cX11_see 5 = .ok (.aload_n 0, 1) := by decide +kernel
theorem dX11_see_6 : decode cX11_see 6 = .ok (.getfield 42, 3) := by decide +kernel
theorem dX11_see_9 : decode cX11_see 9 = .ok (.getfield 134, 3) := by decide +kernel
theorem dX11_see_12 : decode cX11_see 12 = .ok (.getfield 173, 3) := by decide +kernel
theorem dX11_see_15 : decode cX11_see 15 = .ok (.bipush 8, 2) := by decide +kernel
theorem dX11_see_17 : decode cX11_see 17 = .ok (.if_icmp .ge 27, 3) := by decide +kernel
theorem dX11_see_20 : decode cX11_see 20 = .ok (.iload_n 2, 1) := by decide +kernel
theorem dX11_see_21 : decode cX11_see 21 = .ok (.ifCond .lt 23, 3) := by decide +kernel
theorem dX11_see_24 : decode cX11_see 24 = .ok (.iload_n 2, 1) := by decide +kernel
theorem dX11_see_25 : decode cX11_see 25 = .ok (.bipush 20, 2) := by decide +kernel
theorem dX11_see_27 : decode cX11_see 27 = .ok (.if_icmp .gt 17, 3) := by decide +kernel
theorem dX11_see_30 : decode cX11_see 30 = .ok (.iload_n 3, 1) := by decide +kernel
theorem dX11_see_31 : decode cX11_see 31 = .ok (.ifCond .lt 13, 3) := by decide +kernel
theorem dX11_see_34 : decode cX11_see 34 = .ok (.iload_n 3, 1) := by decide +kernel
theorem dX11_see_35 : decode cX11_see 35 = .ok (.bipush 99, 2) := by decide +kernel
theorem dX11_see_37 : decode cX11_see 37 = .ok (.if_icmp .gt 7, 3) := by decide +kernel
theorem dX11_see_40 : decode cX11_see 40 = .ok (.iconst 1, 1) := by decide +kernel
theorem dX11_see_41 : decode cX11_see 41 = .ok (.goto 4, 3) := by decide +kernel
theorem dX11_see_44 : decode cX11_see 44 = .ok (.iconst 0, 1) := by decide +kernel
theorem dX11_see_45 : decode cX11_see 45 = .ok (.istore 4, 2) := by decide +kernel
theorem dX11_see_47 : decode cX11_see 47 = .ok (.iload 4, 2) := by decide +kernel
theorem dX11_see_49 : decode cX11_see 49 = .ok (.ifCond .ne 15, 3) := by decide +kernel
theorem dX11_see_52 : decode cX11_see 52 = .ok (.aload_n 0, 1) := by decide +kernel
theorem dX11_see_53 : decode cX11_see 53 = .ok (.dup, 1) := by decide +kernel
theorem dX11_see_54 : decode cX11_see 54 = .ok (.getfield 26, 3) := by decide +kernel
theorem dX11_see_57 : decode cX11_see 57 = .ok (.iconst 1, 1) := by decide +kernel
theorem dX11_see_58 : decode cX11_see 58 = .ok (.iadd, 1) := by decide +kernel
theorem dX11_see_59 : decode cX11_see 59 = .ok (.putfield 26, 3) := by decide +kernel
theorem dX11_see_62 : decode cX11_see 62 = .ok (.iconst (-1), 1) := by decide +kernel
theorem dX11_see_63 : decode cX11_see 63 = .ok (.ireturn, 1) := by decide +kernel
theorem dX11_see_64 : decode cX11_see 64 = .ok (.aload_n 0, 1) := by decide +kernel
theorem dX11_see_65 : decode cX11_see 65 = .ok (.getfield 42, 3) := by decide +kernel
theorem dX11_see_68 : decode cX11_see 68 = .ok (.getfield 134, 3) := by decide +kernel
theorem dX11_see_71 : decode cX11_see 71 = .ok (.iload_n 1, 1) := by decide +kernel
theorem dX11_see_72 : decode cX11_see 72 = .ok (.iload_n 2, 1) := by decide +kernel
theorem dX11_see_73 : decode cX11_see 73 = .ok (.iload_n 3, 1) := by decide +kernel
theorem dX11_see_74 : decode cX11_see 74 = .ok (.invokevirtual 349, 3) := by decide +kernel
theorem dX11_see_77 : decode cX11_see 77 = .ok (.aload_n 0, 1) := by decide +kernel
theorem dX11_see_78 : decode cX11_see 78 = .ok (.getfield 42, 3) := by decide +kernel
theorem dX11_see_81 : decode cX11_see 81 = .ok (.getfield 134, 3) := by decide +kernel
theorem dX11_see_84 : decode cX11_see 84 = .ok (.getfield 173, 3) := by decide +kernel
theorem dX11_see_87 : decode cX11_see 87 = .ok (.ireturn, 1) := by decide +kernel
theorem dX11_forget_0 : decode cX11_forget 0 = .ok (.aload_n 0, 1) := by decide +kernel
theorem dX11_forget_1 : decode cX11_forget 1 = .ok (.getfield 42, 3) := by decide +kernel
theorem dX11_forget_4 : decode cX11_forget 4 = .ok (.getfield 134, 3) := by decide +kernel
theorem dX11_forget_7 : decode cX11_forget 7 = .ok (.invokevirtual 138, 3) := by decide +kernel
theorem dX11_forget_10 : decode cX11_forget 10 = .ok (.return_, 1) := by decide +kernel
theorem dX11_torn_0 : decode cX11_torn 0 = .ok (.iload_n 1, 1) := by decide +kernel
theorem dX11_torn_1 : decode cX11_torn 1 = .ok (.iconst 2, 1) := by decide +kernel
theorem dX11_torn_2 : decode cX11_torn 2 = .ok (.invokestatic 250, 3) := by decide +kernel
theorem dX11_torn_5 : decode cX11_torn 5 = .ok (.iload_n 1, 1) := by decide +kernel
theorem dX11_torn_6 : decode cX11_torn 6 = .ok (.iconst 2, 1) := by decide +kernel
theorem dX11_torn_7 : decode cX11_torn 7 = .ok (.if_icmp .ne 27, 3) := by decide +kernel
theorem dX11_torn_10 : decode cX11_torn 10 = .ok (.aload_n 0, 1) := by decide +kernel
theorem dX11_torn_11 : decode cX11_torn 11 = .ok (.getfield 66, 3) := by decide +kernel
theorem dX11_torn_14 : decode cX11_torn 14 = .ok (.aload_n 0, 1) := by decide +kernel
theorem dX11_torn_15 : decode cX11_torn 15 = .ok (.getfield 32, 3) := by decide +kernel
theorem dX11_torn_18 : decode cX11_torn 18 = .ok (.aload_n 0, 1) := by decide +kernel
theorem dX11_torn_19 : decode cX11_torn 19 = .ok (.getfield 42, 3) := by decide +kernel
theorem dX11_torn_22 : decode cX11_torn 22 = .ok (.invokevirtual 353, 3) := by decide +kernel
theorem dX11_torn_25 : decode cX11_torn 25 = .ok (.ifCond .eq 7, 3) := by decide +kernel
theorem dX11_torn_28 : decode cX11_torn 28 = .ok (.iconst 1, 1) := by decide +kernel
theorem dX11_torn_29 : decode cX11_torn 29 = .ok (.goto 4, 3) := by decide +kernel
theorem dX11_torn_32 : decode cX11_torn 32 = .ok (.iconst 0, 1) := by decide +kernel
theorem dX11_torn_33 : decode cX11_torn 33 = .ok (.ireturn, 1) := by decide +kernel
theorem dX11_torn_34 : decode cX11_torn 34 = .ok (.aload_n 0, 1) := by decide +kernel
theorem dX11_torn_35 : decode cX11_torn 35 = .ok (.getfield 66, 3) := by decide +kernel
theorem dX11_torn_38 : decode cX11_torn 38 = .ok (.aload_n 0, 1) := by decide +kernel
theorem dX11_torn_39 : decode cX11_torn 39 = .ok (.getfield 32, 3) := by decide +kernel
theorem dX11_torn_42 : decode cX11_torn 42 = .ok (.aload_n 0, 1) := by decide +kernel
theorem dX11_torn_43 : decode cX11_torn 43 = .ok (.getfield 42, 3) := by decide +kernel
theorem dX11_torn_46 : decode cX11_torn 46 = .ok (.iconst 0, 1) := by decide +kernel
theorem dX11_torn_47 : decode cX11_torn 47 = .ok (.invokevirtual 357, 3) := by decide +kernel
theorem dX11_torn_50 : decode cX11_torn 50 = .ok (.iload_n 1, 1) := by decide +kernel
theorem dX11_torn_51 : decode cX11_torn 51 = .ok (.ifCond .ne 13, 3) := by decide +kernel
theorem dX11_torn_54 : decode cX11_torn 54 = .ok (.aload_n 0, 1) := by decide +kernel
theorem dX11_torn_55 : decode cX11_torn 55 = .ok (.getfield 66, 3) := by decide +kernel
theorem dX11_torn_58 : decode cX11_torn 58 = .ok (.getfield 361, 3) := by decide +kernel
theorem dX11_torn_61 : decode cX11_torn 61 = .ok (.goto 10, 3) := by decide +kernel
theorem dX11_torn_64 : decode cX11_torn 64 = .ok (.aload_n 0, 1) := by decide +kernel
theorem dX11_torn_65 : decode cX11_torn 65 = .ok (.getfield 66, 3) := by decide +kernel
theorem dX11_torn_68 : decode cX11_torn 68 = .ok (.getfield 362, 3) := by decide +kernel
theorem dX11_torn_71 : decode cX11_torn 71 = .ok (.ireturn, 1) := by decide +kernel
theorem dX11_look_0 : decode cX11_look 0 = .ok (.iload_n 1, 1) := by decide +kernel
theorem dX11_look_1 : decode cX11_look 1 = .ok (.iconst 1, 1) := by decide +kernel
theorem dX11_look_2 : decode cX11_look 2 = .ok (.invokestatic 250, 3) := by decide +kernel
theorem dX11_look_5 : decode cX11_look 5 = .ok (.aload_n 0, 1) := by decide +kernel
theorem dX11_look_6 : decode cX11_look 6 = .ok (.getfield 66, 3) := by decide +kernel
theorem dX11_look_9 : decode cX11_look 9 = .ok (.aload_n 0, 1) := by decide +kernel
theorem dX11_look_10 : decode cX11_look 10 = .ok (.getfield 32, 3) := by decide +kernel
theorem dX11_look_13 : decode cX11_look 13 = .ok (.aload_n 0, 1) := by decide +kernel
theorem dX11_look_14 : decode cX11_look 14 = .ok (.getfield 42, 3) := by decide +kernel
theorem dX11_look_17 : decode cX11_look 17 = .ok (.iconst 5, 1) := by decide +kernel
theorem dX11_look_18 : decode cX11_look 18 = .ok (.invokevirtual 357, 3) := by decide +kernel
theorem dX11_look_21 : decode cX11_look 21 = .ok (.iconst (-1), 1) := by decide +kernel
theorem dX11_look_22 : decode cX11_look 22 = .ok (.istore_n 2, 1) := by decide +kernel
theorem dX11_look_23 : decode cX11_look 23 = .ok (.iconst 0, 1) := by decide +kernel
theorem dX11_look_24 : decode cX11_look 24 = .ok (.istore_n 3, 1) := by decide +kernel
theorem dX11_look_25 : decode cX11_look 25 = .ok (.iconst 0, 1) := by decide +kernel
theorem dX11_look_26 : decode cX11_look 26 = .ok (.istore 4, 2) := by decide +kernel
theorem dX11_look_28 : decode cX11_look 28 = .ok (.iload 4, 2) := by decide +kernel
theorem dX11_look_30 : decode cX11_look 30 = .ok (.aload_n 0, 1) := by decide +kernel
theorem dX11_look_31 : decode cX11_look 31 = .ok (.getfield 32, 3) := by decide +kernel
theorem dX11_look_34 : decode cX11_look 34 = .ok (.getfield 141, 3) := by decide +kernel
theorem dX11_look_37 : decode cX11_look 37 = .ok (.if_icmp .ge 32, 3) := by decide +kernel
theorem dX11_look_40 : decode cX11_look 40 = .ok (.aload_n 0, 1) := by decide +kernel
theorem dX11_look_41 : decode cX11_look 41 = .ok (.getfield 66, 3) := by decide +kernel
theorem dX11_look_44 : decode cX11_look 44 = .ok (.iload 4, 2) := by decide +kernel
theorem dX11_look_46 : decode cX11_look 46 = .ok (.invokevirtual 365, 3) := by decide +kernel
theorem dX11_look_49 : decode cX11_look 49 = .ok (.istore 5, 2) := by decide +kernel
theorem dX11_look_51 : decode cX11_look 51 = .ok (.iload 5, 2) := by decide +kernel
theorem dX11_look_53 : decode cX11_look 53 = .ok (.iload_n 3, 1) := by decide +kernel
theorem dX11_look_54 : decode cX11_look 54 = .ok (.if_icmp .le 9, 3) := by decide +kernel
theorem dX11_look_57 : decode cX11_look 57 = .ok (.iload 5, 2) := by decide +kernel
theorem dX11_look_59 : decode cX11_look 59 = .ok (.istore_n 3, 1) := by decide +kernel
theorem dX11_look_60 : decode cX11_look 60 = .ok (.iload 4, 2) := by decide +kernel
theorem dX11_look_62 : decode cX11_look 62 = .ok (.istore_n 2, 1) := by decide +kernel
theorem dX11_look_63 : decode cX11_look 63 = .ok (.iinc 4 1, 3) := by decide +kernel
theorem dX11_look_66 : decode cX11_look 66 = .ok (.goto (-38), 3) := by decide +kernel
theorem dX11_look_69 : decode cX11_look 69 = .ok (.iload_n 1, 1) := by decide +kernel
theorem dX11_look_70 : decode cX11_look 70 = .ok (.ifCond .ne 7, 3) := by decide +kernel
theorem dX11_look_73 : decode cX11_look 73 = .ok (.iload_n 2, 1) := by decide +kernel
theorem dX11_look_74 : decode cX11_look 74 = .ok (.goto 4, 3) := by decide +kernel
theorem dX11_look_77 : decode cX11_look 77 = .ok (.iload_n 3, 1) := by decide +kernel
theorem dX11_look_78 : decode cX11_look 78 = .ok (.ireturn, 1) := by decide +kernel
theorem dX11_gales_0 : decode cX11_gales 0 = .ok (.iload_n 1, 1) := by decide +kernel
theorem dX11_gales_1 : decode cX11_gales 1 = .ok (.iconst 1, 1) := by decide +kernel
theorem dX11_gales_2 : decode cX11_gales 2 = .ok (.if_icmp .lt 18, 3) := by decide +kernel
theorem dX11_gales_5 : decode cX11_gales 5 = .ok (.iload_n 1, 1) := by decide +kernel
theorem dX11_gales_6 : decode cX11_gales 6 = .ok (.iconst 5, 1) := by decide +kernel
theorem dX11_gales_7 : decode cX11_gales 7 = .ok (.if_icmp .gt 13, 3) := by decide +kernel
theorem dX11_gales_10 : decode cX11_gales 10 = .ok (.iload_n 2, 1) := by decide +kernel
theorem dX11_gales_11 : decode cX11_gales 11 = .ok (.ifCond .lt 9, 3) := by decide +kernel
theorem dX11_gales_14 : decode cX11_gales 14 = .ok (.iload_n 2, 1) := by decide +kernel
theorem dX11_gales_15 : decode cX11_gales 15 = .ok (.bipush 10, 2) := by decide +kernel
theorem dX11_gales_17 : decode cX11_gales 17 = .ok (.if_icmp .le 14, 3) := by decide +kernel
theorem dX11_gales_20 : decode cX11_gales 20 = .ok (.new 95, 3) := by decide +kernel
theorem dX11_gales_23 : decode cX11_gales 23 = .ok (.dup, 1) := by decide +kernel
theorem dX11_gales_24 : decode cX11_gales 24 = .ok (.ldc_w 368, 3) := by decide +kernel
theorem dX11_gales_27 : decode cX11_gales 27 = .ok (.invokespecial 99, 3) := by decide +kernel
theorem dX11_gales_30 : decode cX11_gales 30 = .ok (.athrow, 1) := by decide +kernel
theorem dX11_gales_31 : decode cX11_gales 31 = .ok (.aload_n 0, 1) := by decide +kernel
theorem dX11_gales_32 : decode cX11_gales 32 = .ok (.getfield 42, 3) := by decide +kernel
theorem dX11_gales_35 : decode cX11_gales 35 = .ok (.getfield 84, 3) := by decide +kernel
theorem dX11_gales_38 : decode cX11_gales 38 = .ok (.aload_n 0, 1) := by decide +kernel
theorem dX11_gales_39 : decode cX11_gales 39 = .ok (.getfield 32, 3) := by decide +kernel
theorem dX11_gales_42 : decode cX11_gales 42 = .ok (.invokevirtual 159, 3) := by decide +kernel
theorem dX11_gales_45 : decode cX11_gales 45 = .ok (.iconst (-1), 1) := by decide +kernel
theorem dX11_gales_46 : decode cX11_gales 46 = .ok (.ixor, 1) := by decide +kernel
theorem dX11_gales_47 : decode cX11_gales 47 = .ok (.istore_n 3, 1) := by decide +kernel
theorem dX11_gales_48 : decode cX11_gales 48 = .ok (.iconst 0, 1) := by decide +kernel
theorem dX11_gales_49 : decode cX11_gales 49 = .ok (.istore 4, 2) := by decide +kernel
theorem dX11_gales_51 : decode cX11_gales 51 = .ok (.iconst 0, 1) := by decide +kernel
theorem dX11_gales_52 : decode cX11_gales 52 = .ok (.istore 5, 2) := by decide +kernel
theorem dX11_gales_54 : decode cX11_gales 54 = .ok (.iload 5, 2) := by decide +kernel
theorem dX11_gales_56 : decode cX11_gales 56 = .ok (.iconst 1, 1) := by decide +kernel
theorem dX11_gales_57 : decode cX11_gales 57 = .ok (.iload_n 1, 1) := by decide +kernel
theorem dX11_gales_58 : decode cX11_gales 58 = .ok (.ishl, 1) := by decide +kernel
theorem dX11_gales_59 : decode cX11_gales 59 = .ok (.if_icmp .ge 53, 3) := by decide +kernel
theorem dX11_gales_62 : decode cX11_gales 62 = .ok (.iload 5, 2) := by decide +kernel
theorem dX11_gales_64 : decode cX11_gales 64 = .ok (.iload_n 1, 1) := by decide +kernel
theorem dX11_gales_65 : decode cX11_gales 65 = .ok (.iload_n 2, 1) := by decide +kernel
theorem dX11_gales_66 : decode cX11_gales 66 = .ok (.invokestatic 370, 3) := by decide +kernel
theorem dX11_gales_69 : decode cX11_gales 69 = .ok (.istore 6, 2) := by decide +kernel
theorem dX11_gales_71 : decode cX11_gales 71 = .ok (.iload 6, 2) := by decide +kernel
theorem dX11_gales_73 : decode cX11_gales 73 = .ok (.ifCond .le 33, 3) := by decide +kernel
theorem dX11_gales_76 : decode cX11_gales 76 = .ok (.aload_n 0, 1) := by decide +kernel
theorem dX11_gales_77 : decode cX11_gales 77 = .ok (.iload 5, 2) := by decide +kernel
theorem dX11_gales_79 : decode cX11_gales 79 = .ok (.iload_n 1, 1) := by decide +kernel
theorem dX11_gales_80 : decode cX11_gales 80 = .ok (.invokevirtual 374, 3) := by decide +kernel
theorem dX11_gales_83 : decode cX11_gales 83 = .ok (.aload_n 0, 1) := by decide +kernel
theorem dX11_gales_84 : decode cX11_gales 84 = .ok (.getfield 56, 3) := by decide +kernel
theorem dX11_gales_87 : decode cX11_gales 87 = .ok (.aload_n 0, 1) := by decide +kernel
theorem dX11_gales_88 : decode cX11_gales 88 = .ok (.getfield 32, 3) := by decide +kernel
theorem dX11_gales_91 : decode cX11_gales 91 = .ok (.invokevirtual 159, 3) := by decide +kernel
theorem dX11_gales_94 : decode cX11_gales 94 = .ok (.iload_n 3, 1) := by decide +kernel
theorem dX11_gales_95 : decode cX11_gales 95 = .ok (.iand, 1) := by decide +kernel
theorem dX11_gales_96 : decode cX11_gales 96 = .ok (.ifCond .eq 10, 3) := by decide +kernel
theorem dX11_gales_99 : decode cX11_gales 99 = .ok (.iload 4, 2) := by decide +kernel
theorem dX11_gales_101 : decode cX11_gales 101 = .ok (.iload 6, 2) := by decide +kernel
theorem dX11_gales_103 : decode cX11_gales 103 = .ok (.iadd, 1) := by decide +kernel
theorem dX11_gales_104 : decode cX11_gales 104 = .ok (.istore 4, 2) := by decide +kernel
theorem dX11_gales_106 : decode cX11_gales 106 = .ok (.iinc 5 1, 3) := by decide +kernel
theorem dX11_gales_109 : decode cX11_gales 109 = .ok (.goto (-55), 3) := by decide +kernel
theorem dX11_gales_112 : decode cX11_gales 112 = .ok (.iload 4, 2) := by decide +kernel
theorem dX11_gales_114 : decode cX11_gales 114 = .ok (.ireturn, 1) := by decide +kernel
theorem dX11_weightOf_0 : decode cX11_weightOf 0 = .ok (.iconst 1, 1) := by decide +kernel
theorem dX11_weightOf_1 : decode cX11_weightOf 1 = .ok (.istore_n 3, 1) := by decide +kernel
theorem dX11_weightOf_2 : decode cX11_weightOf 2 = .ok (.iconst 0, 1) := by decide +kernel
theorem dX11_weightOf_3 : decode cX11_weightOf 3 = .ok (.istore 4, 2) := by decide +kernel
theorem dX11_weightOf_5 : decode cX11_weightOf 5 = .ok (.iload 4, 2) := by decide +kernel
theorem dX11_weightOf_7 : decode cX11_weightOf 7 = .ok (.iload_n 1, 1) := by decide +kernel
theorem dX11_weightOf_8 : decode cX11_weightOf 8 = .ok (.if_icmp .ge 30, 3) := by decide +kernel
theorem dX11_weightOf_11 : decode cX11_weightOf 11 = .ok (.iload_n 3, 1) := by decide +kernel
theorem dX11_weightOf_12 : decode cX11_weightOf 12 = .ok (.iload_n 0, 1) := by decide +kernel
theorem dX11_weightOf_13 : decode cX11_weightOf 13 = .ok (.iload 4, 2) := by decide +kernel
theorem dX11_weightOf_15 : decode cX11_weightOf 15 = .ok (.ishr, 1) := by decide +kernel
theorem dX11_weightOf_16 : decode cX11_weightOf 16 = .ok (.iconst 1, 1) := by decide +kernel
theorem dX11_weightOf_17 : decode cX11_weightOf 17 = .ok (.iand, 1) := by decide +kernel
theorem dX11_weightOf_18 : decode cX11_weightOf 18 = .ok (.iconst 1, 1) := by decide +kernel
theorem dX11_weightOf_19 : decode cX11_weightOf 19 = .ok (.if_icmp .ne 7, 3) := by decide +kernel
theorem dX11_weightOf_22 : decode cX11_weightOf 22 = .ok (.iload_n 2, 1) := by decide +kernel
theorem dX11_weightOf_23 : decode cX11_weightOf 23 = .ok (.goto 7, 3) := by decide +kernel
theorem dX11_weightOf_26 : decode cX11_weightOf 26 = .ok (.bipush 10, 2) := by decide +kernel
theorem dX11_weightOf_28 : decode cX11_weightOf 28 = .ok (.iload_n 2, 1) := by decide +kernel
theorem dX11_weightOf_29 : decode cX11_weightOf 29 = .ok (.isub, 1) := by decide +kernel
theorem dX11_weightOf_30 : decode cX11_weightOf 30 = .ok (.imul, 1) := by decide +kernel
theorem dX11_weightOf_31 : decode cX11_weightOf 31 = .ok (.istore_n 3, 1) := by decide +kernel
theorem dX11_weightOf_32 : decode cX11_weightOf 32 = .ok (.iinc 4 1, 3) := by decide +kernel
theorem dX11_weightOf_35 : decode cX11_weightOf 35 = .ok (.goto (-30), 3) := by decide +kernel
theorem dX11_weightOf_38 : decode cX11_weightOf 38 = .ok (.iload_n 3, 1) := by decide +kernel
theorem dX11_weightOf_39 : decode cX11_weightOf 39 = .ok (.ireturn, 1) := by decide +kernel
theorem dX11_blow_0 : decode cX11_blow 0 = .ok (.aload_n 0, 1) := by decide +kernel
theorem dX11_blow_1 : decode cX11_blow 1 = .ok (.getfield 56, 3) := by decide +kernel
theorem dX11_blow_4 : decode cX11_blow 4 = .ok (.aload_n 0, 1) := by decide +kernel
theorem dX11_blow_5 : decode cX11_blow 5 = .ok (.getfield 42, 3) := by decide +kernel
theorem dX11_blow_8 : decode cX11_blow 8 = .ok (.getfield 84, 3) := by decide +kernel
theorem dX11_blow_11 : decode cX11_blow 11 = .ok (.invokevirtual 123, 3) := by decide +kernel
theorem dX11_blow_14 : decode cX11_blow 14 = .ok (.iconst 0, 1) := by decide +kernel
theorem dX11_blow_15 : decode cX11_blow 15 = .ok (.istore_n 3, 1) := by decide +kernel
theorem dX11_blow_16 : decode cX11_blow 16 = .ok (.iload_n 3, 1) := by decide +kernel
theorem dX11_blow_17 : decode cX11_blow 17 = .ok (.iload_n 2, 1) := by decide +kernel
theorem dX11_blow_18 : decode cX11_blow 18 = .ok (.if_icmp .ge 40, 3) := by decide +kernel
theorem dX11_blow_21 : decode cX11_blow 21 = .ok (.iload_n 1, 1) := by decide +kernel
theorem dX11_blow_22 : decode cX11_blow 22 = .ok (.iload_n 3, 1) := by decide +kernel
theorem dX11_blow_23 : decode cX11_blow 23 = .ok (.ishr, 1) := by decide +kernel
theorem dX11_blow_24 : decode cX11_blow 24 = .ok (.iconst 1, 1) := by decide +kernel
theorem dX11_blow_25 : decode cX11_blow 25 = .ok (.iand, 1) := by decide +kernel
theorem dX11_blow_26 : decode cX11_blow 26 = .ok (.iconst 1, 1) := by decide +kernel
theorem dX11_blow_27 : decode cX11_blow 27 = .ok (.if_icmp .ne 14, 3) := by decide +kernel
theorem dX11_blow_30 : decode cX11_blow 30 = .ok (.aload_n 0, 1) := by decide +kernel
theorem dX11_blow_31 : decode cX11_blow 31 = .ok (.getfield 56, 3) := by decide +kernel
theorem dX11_blow_34 : decode cX11_blow 34 = .ok (.aload_n 0, 1) := by decide +kernel
theorem dX11_blow_35 : decode cX11_blow 35 = .ok (.getfield 32, 3) := by decide +kernel
theorem dX11_blow_38 : decode cX11_blow 38 = .ok (.invokevirtual 377, 3) := by decide +kernel
theorem dX11_blow_41 : decode cX11_blow 41 = .ok (.aload_n 0, 1) := by decide +kernel
theorem dX11_blow_42 : decode cX11_blow 42 = .ok (.getfield 56, 3) := by decide +kernel
theorem dX11_blow_45 : decode cX11_blow 45 = .ok (.aload_n 0, 1) := by decide +kernel
theorem dX11_blow_46 : decode cX11_blow 46 = .ok (.getfield 32, 3) := by decide +kernel
theorem dX11_blow_49 : decode cX11_blow 49 = .ok (.invokevirtual 268, 3) := by decide +kernel
theorem dX11_blow_52 : decode cX11_blow 52 = .ok (.iinc 3 1, 3) := by decide +kernel
theorem dX11_blow_55 : decode cX11_blow 55 = .ok (.goto (-39), 3) := by decide +kernel
theorem dX11_blow_58 : decode cX11_blow 58 = .ok (.return_, 1) := by decide +kernel
theorem dX11_game_0 : decode cX11_game 0 = .ok (.aload_n 0, 1) := by decide +kernel
theorem dX11_game_1 : decode cX11_game 1 = .ok (.iload_n 1, 1) := by decide +kernel
theorem dX11_game_2 : decode cX11_game 2 = .ok (.invokevirtual 207, 3) := by decide +kernel
theorem dX11_game_5 : decode cX11_game 5 = .ok (.aload_n 0, 1) := by decide +kernel
theorem dX11_game_6 : decode cX11_game 6 = .ok (.iload_n 2, 1) := by decide +kernel
theorem dX11_game_7 : decode cX11_game 7 = .ok (.invokevirtual 207, 3) := by decide +kernel
theorem dX11_game_10 : decode cX11_game 10 = .ok (.iload_n 3, 1) := by decide +kernel
theorem dX11_game_11 : decode cX11_game 11 = .ok (.iconst 1, 1) := by decide +kernel
theorem dX11_game_12 : decode cX11_game 12 = .ok (.invokestatic 250, 3) := by decide +kernel
theorem dX11_game_15 : decode cX11_game 15 = .ok (.iload_n 1, 1) := by decide +kernel
theorem dX11_game_16 : decode cX11_game 16 = .ok (.iload_n 2, 1) := by decide +kernel
theorem dX11_game_17 : decode cX11_game 17 = .ok (.if_icmp .ne 14, 3) := by decide +kernel
theorem dX11_game_20 : decode cX11_game 20 = .ok (.new 95, 3) := by decide +kernel
theorem dX11_game_23 : decode cX11_game 23 = .ok (.dup, 1) := by decide +kernel
theorem dX11_game_24 : decode cX11_game 24 = .ok (.ldc_w 380, 3) := by decide +kernel
theorem dX11_game_27 : decode cX11_game 27 = .ok (.invokespecial 99, 3) := by decide +kernel
theorem dX11_game_30 : decode cX11_game 30 = .ok (.athrow, 1) := by decide +kernel
theorem dX11_game_31 : decode cX11_game 31 = .ok (.iconst 0, 1) := by decide +kernel
theorem dX11_game_32 : decode cX11_game 32 = .ok (.istore 4, 2) := by decide +kernel
theorem dX11_game_34 : decode cX11_game 34 = .ok (.iload 4, 2) := by decide +kernel
theorem dX11_game_36 : decode cX11_game 36 = .ok (.iconst 4, 1) := by decide +kernel
theorem dX11_game_37 : decode cX11_game 37 = .ok (.if_icmp .ge 17, 3) := by decide +kernel
theorem dX11_game_40 : decode cX11_game 40 = .ok (.aload_n 0, 1) := by decide +kernel
theorem dX11_game_41 : decode cX11_game 41 = .ok (.iload_n 1, 1) := by decide +kernel
theorem dX11_game_42 : decode cX11_game 42 = .ok (.iload_n 2, 1) := by decide +kernel
theorem dX11_game_43 : decode cX11_game 43 = .ok (.iload 4, 2) := by decide +kernel
theorem dX11_game_45 : decode cX11_game 45 = .ok (.invokevirtual 382, 3) := by decide +kernel
theorem dX11_game_48 : decode cX11_game 48 = .ok (.iinc 4 1, 3) := by decide +kernel
theorem dX11_game_51 : decode cX11_game 51 = .ok (.goto (-17), 3) := by decide +kernel
theorem dX11_game_54 : decode cX11_game 54 = .ok (.iconst 0, 1) := by decide +kernel
theorem dX11_game_55 : decode cX11_game 55 = .ok (.istore 4, 2) := by decide +kernel
theorem dX11_game_57 : decode cX11_game 57 = .ok (.iconst (-1), 1) := by decide +kernel
theorem dX11_game_58 : decode cX11_game 58 = .ok (.istore 5, 2) := by decide +kernel
theorem dX11_game_60 : decode cX11_game 60 = .ok (.iconst 3, 1) := by decide +kernel
theorem dX11_game_61 : decode cX11_game 61 = .ok (.istore 6, 2) := by decide +kernel
theorem dX11_game_63 : decode cX11_game 63 = .ok (.iload 6, 2) := by decide +kernel
theorem dX11_game_65 : decode cX11_game 65 = .ok (.ifCond .lt 35, 3) := by decide +kernel
theorem dX11_game_68 : decode cX11_game 68 = .ok (.aload_n 0, 1) := by decide +kernel
theorem dX11_game_69 : decode cX11_game 69 = .ok (.iload 6, 2) := by decide +kernel
theorem dX11_game_71 : decode cX11_game 71 = .ok (.invokevirtual 385, 3) := by decide +kernel
theorem dX11_game_74 : decode cX11_game 74 = .ok (.ifCond .eq 20, 3) := by decide +kernel
theorem dX11_game_77 : decode cX11_game 77 = .ok (.iinc 4 1, 3) := by decide +kernel
theorem dX11_game_80 : decode cX11_game 80 = .ok (.bipush 10, 2) := by decide +kernel
theorem dX11_game_82 : decode cX11_game 82 = .ok (.iload 6, 2) := by decide +kernel
theorem dX11_game_84 : decode cX11_game 84 = .ok (.iconst 1, 1) := by decide +kernel
theorem dX11_game_85 : decode cX11_game 85 = .ok (.ishr, 1) := by decide +kernel
theorem dX11_game_86 : decode cX11_game 86 = .ok (.imul, 1) := by decide +kernel
theorem dX11_game_87 : decode cX11_game 87 = .ok (.iload 6, 2) := by decide +kernel
theorem dX11_game_89 : decode cX11_game 89 = .ok (.iconst 1, 1) := by decide +kernel
theorem dX11_game_90 : decode cX11_game 90 = .ok (.iand, 1) := by decide +kernel
theorem dX11_game_91 : decode cX11_game 91 = .ok (.iadd, 1) := by decide +kernel
theorem dX11_game_92 : decode cX11_game 92 = .ok (.istore 5, 2) := by decide +kernel
theorem dX11_game_94 : decode cX11_game 94 = .ok (.iinc 6 (-1), 3) := by decide +kernel
theorem dX11_game_97 : decode cX11_game 97 = .ok (.goto (-34), 3) := by decide +kernel
theorem dX11_game_100 : decode cX11_game 100 = .ok (.iload_n 3, 1) := by decide +kernel
theorem dX11_game_101 : decode cX11_game 101 = .ok (.ifCond .ne 8, 3) := by decide +kernel
theorem dX11_game_104 : decode cX11_game 104 = .ok (.iload 4, 2) := by decide +kernel
theorem dX11_game_106 : decode cX11_game 106 = .ok (.goto 5, 3) := by decide +kernel
theorem dX11_game_109 : decode cX11_game 109 = .ok (.iload 5, 2) := by decide +kernel
theorem dX11_game_111 : decode cX11_game 111 = .ok (.ireturn, 1) := by decide +kernel
theorem dX11_playCouple_0 : decode cX11_playCouple 0 = .ok (.iload_n 3, 1) := by decide +kernel
theorem dX11_playCouple_1 : decode cX11_playCouple 1 = .ok (.iconst 1, 1) := by decide +kernel
theorem dX11_playCouple_2 : decode cX11_playCouple 2 = .ok (.ishr, 1) := by decide +kernel
theorem dX11_playCouple_3 : decode cX11_playCouple 3 = .ok (.istore 4, 2) := by decide +kernel
theorem dX11_playCouple_5 : decode cX11_playCouple 5 = .ok (.iload_n 3, 1) := by decide +kernel
theorem dX11_playCouple_6 : decode cX11_playCouple 6 = .ok (.iconst 1, 1) := by decide +kernel
theorem dX11_playCouple_7 : decode cX11_playCouple 7 = .ok (.iand, 1) := by decide +kernel
theorem dX11_playCouple_8 : decode cX11_playCouple 8 = .ok (.istore 5, 2) := by decide +kernel
theorem dX11_playCouple_10 : decode cX11_playCouple 10 = .ok (.aload_n 0, 1) := by decide +kernel
theorem dX11_playCouple_11 : decode cX11_playCouple 11 = .ok (.getfield 56, 3) := by decide +kernel
theorem dX11_playCouple_14 : decode cX11_playCouple 14 = .ok (.aload_n 0, 1) := by decide +kernel
theorem dX11_playCouple_15 : decode cX11_playCouple 15 = .ok (.getfield 42, 3) := by decide +kernel
theorem dX11_playCouple_18 : decode cX11_playCouple 18 = .ok (.getfield 84, 3) := by decide +kernel
theorem dX11_playCouple_21 : decode cX11_playCouple 21 = .ok (.invokevirtual 123, 3) := by decide +kernel
theorem dX11_playCouple_24 : decode cX11_playCouple 24 = .ok (.aload_n 0, 1) := by decide +kernel
theorem dX11_playCouple_25 : decode cX11_playCouple 25 = .ok (.iload_n 1, 1) := by decide +kernel
theorem dX11_playCouple_26 : decode cX11_playCouple 26 = .ok (.iload 4, 2) := by decide +kernel
theorem dX11_playCouple_28 : decode cX11_playCouple 28 = .ok (.invokevirtual 388, 3) := by decide +kernel
theorem dX11_playCouple_31 : decode cX11_playCouple 31 = .ok (.aload_n 0, 1) := by decide +kernel
theorem dX11_playCouple_32 : decode cX11_playCouple 32 = .ok (.iload_n 2, 1) := by decide +kernel
theorem dX11_playCouple_33 : decode cX11_playCouple 33 = .ok (.iload 5, 2) := by decide +kernel
theorem dX11_playCouple_35 : decode cX11_playCouple 35 = .ok (.invokevirtual 388, 3) := by decide +kernel
theorem dX11_playCouple_38 : decode cX11_playCouple 38 = .ok (.aload_n 0, 1) := by decide +kernel
theorem dX11_playCouple_39 : decode cX11_playCouple 39 = .ok (.getfield 56, 3) := by decide +kernel
theorem dX11_playCouple_42 : decode cX11_playCouple 42 = .ok (.aload_n 0, 1) := by decide +kernel
theorem dX11_playCouple_43 : decode cX11_playCouple 43 = .ok (.getfield 32, 3) := by decide +kernel
theorem dX11_playCouple_46 : decode cX11_playCouple 46 = .ok (.iconst 5, 1) := by decide +kernel
theorem dX11_playCouple_47 : decode cX11_playCouple 47 = .ok (.invokevirtual 228, 3) := by decide +kernel
theorem dX11_playCouple_50 : decode cX11_playCouple 50 = .ok (.aload_n 0, 1) := by decide +kernel
theorem dX11_playCouple_51 : decode cX11_playCouple 51 = .ok (.getfield 80, 3) := by decide +kernel
theorem dX11_playCouple_54 : decode cX11_playCouple 54 = .ok (.iconst 2, 1) := by decide +kernel
theorem dX11_playCouple_55 : decode cX11_playCouple 55 = .ok (.iload_n 3, 1) := by decide +kernel
theorem dX11_playCouple_56 : decode cX11_playCouple 56 = .ok (.imul, 1) := by decide +kernel
theorem dX11_playCouple_57 : decode cX11_playCouple 57 = .ok (.aload_n 0, 1) := by decide +kernel
theorem dX11_playCouple_58 : decode cX11_playCouple 58 = .ok (.iload_n 1, 1) := by decide +kernel
theorem dX11_playCouple_59 : decode cX11_playCouple 59 = .ok (.invokevirtual 391, 3) := by decide +kernel
theorem dX11_playCouple_62 : decode cX11_playCouple 62 = .ok (.bipush 10, 2) := by decide +kernel
theorem dX11_playCouple_64 : decode cX11_playCouple 64 = .ok (.idiv, 1) := by decide +kernel
theorem dX11_playCouple_65 : decode cX11_playCouple 65 = .ok (.iload 4, 2) := by decide +kernel
theorem dX11_playCouple_67 : decode cX11_playCouple 67 = .ok (.isub, 1) := by decide +kernel
theorem dX11_playCouple_68 : decode cX11_playCouple 68 = .ok (.iastore, 1) := by decide +kernel
theorem dX11_playCouple_69 : decode cX11_playCouple 69 = .ok (.aload_n 0, 1) := by decide +kernel
theorem dX11_playCouple_70 : decode cX11_playCouple 70 = .ok (.getfield 80, 3) := by decide +kernel
theorem dX11_playCouple_73 : decode cX11_playCouple 73 = .ok (.iconst 2, 1) := by decide +kernel
theorem dX11_playCouple_74 : decode cX11_playCouple 74 = .ok (.iload_n 3, 1) := by decide +kernel
theorem dX11_playCouple_75 : decode cX11_playCouple 75 = .ok (.imul, 1) := by decide +kernel
theorem dX11_playCouple_76 : decode cX11_playCouple 76 = .ok (.iconst 1, 1) := by decide +kernel
theorem dX11_playCouple_77 : decode cX11_playCouple 77 = .ok (.iadd, 1) := by decide +kernel
theorem dX11_playCouple_78 : decode cX11_playCouple 78 = .ok (.aload_n 0, 1) := by decide +kernel
theorem dX11_playCouple_79 : decode cX11_playCouple 79 = .ok (.iload_n 2, 1) := by decide +kernel
theorem dX11_playCouple_80 : decode cX11_playCouple 80 = .ok (.invokevirtual 391, 3) := by decide +kernel
theorem dX11_playCouple_83 : decode cX11_playCouple 83 = .ok (.bipush 10, 2) := by decide +kernel
theorem dX11_playCouple_85 : decode cX11_playCouple 85 = .ok (.idiv, 1) := by decide +kernel
theorem dX11_playCouple_86 : decode cX11_playCouple 86 = .ok (.iload 5, 2) := by decide +kernel
theorem dX11_playCouple_88 : decode cX11_playCouple 88 = .ok (.isub, 1) := by decide +kernel
theorem dX11_playCouple_89 : decode cX11_playCouple 89 = .ok (.iastore, 1) := by decide +kernel
theorem dX11_playCouple_90 : decode cX11_playCouple 90 = .ok (.return_, 1) := by decide +kernel
theorem dX11_seamThen_0 : decode cX11_seamThen 0 = .ok (.aload_n 0, 1) := by decide +kernel
theorem dX11_seamThen_1 : decode cX11_seamThen 1 = .ok (.getfield 42, 3) := by decide +kernel
theorem dX11_seamThen_4 : decode cX11_seamThen 4 = .ok (.getfield 84, 3) := by decide +kernel
theorem dX11_seamThen_7 : decode cX11_seamThen 7 = .ok (.getfield 213, 3) := by decide +kernel
theorem dX11_seamThen_10 : decode cX11_seamThen 10 = .ok (.iload_n 1, 1) := by decide +kernel
theorem dX11_seamThen_11 : decode cX11_seamThen 11 = .ok (.iaload, 1) := by decide +kernel
theorem dX11_seamThen_12 : decode cX11_seamThen 12 = .ok (.istore_n 2, 1) := by decide +kernel
theorem dX11_seamThen_13 : decode cX11_seamThen 13 = .ok (.aload_n 0, 1) := by decide +kernel
theorem dX11_seamThen_14 : decode cX11_seamThen 14 = .ok (.iload_n 2, 1) := by decide +kernel
theorem dX11_seamThen_15 : decode cX11_seamThen 15 = .ok (.invokevirtual 295, 3) := by decide +kernel
theorem dX11_seamThen_18 : decode cX11_seamThen 18 = .ok (.ifCond .eq 15, 3) := by decide +kernel
theorem dX11_seamThen_21 : decode cX11_seamThen 21 = .ok (.aload_n 0, 1) := by decide +kernel
theorem dX11_seamThen_22 : decode cX11_seamThen 22 = .ok (.getfield 56, 3) := by decide +kernel
theorem dX11_seamThen_25 : decode cX11_seamThen 25 = .ok (.getfield 185, 3) := by decide +kernel
theorem dX11_seamThen_28 : decode cX11_seamThen 28 = .ok (.iload_n 2, 1) := by decide +kernel
theorem dX11_seamThen_29 : decode cX11_seamThen 29 = .ok (.iaload, 1) := by decide +kernel
theorem dX11_seamThen_30 : decode cX11_seamThen 30 = .ok (.goto 4, 3) := by decide +kernel
theorem dX11_seamThen_33 : decode cX11_seamThen 33 = .ok (.iconst 0, 1) := by decide +kernel
theorem dX11_seamThen_34 : decode cX11_seamThen 34 = .ok (.ireturn, 1) := by decide +kernel
theorem dX11_play_0 : decode cX11_play 0 = .ok (.iload_n 2, 1) := by decide +kernel
theorem dX11_play_1 : decode cX11_play 1 = .ok (.iconst 1, 1) := by decide +kernel
theorem dX11_play_2 : decode cX11_play 2 = .ok (.if_icmp .ne 15, 3) := by decide +kernel
theorem dX11_play_5 : decode cX11_play 5 = .ok (.aload_n 0, 1) := by decide +kernel
theorem dX11_play_6 : decode cX11_play 6 = .ok (.getfield 56, 3) := by decide +kernel
theorem dX11_play_9 : decode cX11_play 9 = .ok (.aload_n 0, 1) := by decide +kernel
theorem dX11_play_10 : decode cX11_play 10 = .ok (.getfield 32, 3) := by decide +kernel
theorem dX11_play_13 : decode cX11_play 13 = .ok (.iload_n 1, 1) := by decide +kernel
theorem dX11_play_14 : decode cX11_play 14 = .ok (.invokevirtual 394, 3) := by decide +kernel
theorem dX11_play_17 : decode cX11_play 17 = .ok (.aload_n 0, 1) := by decide +kernel
theorem dX11_play_18 : decode cX11_play 18 = .ok (.getfield 56, 3) := by decide +kernel
theorem dX11_play_21 : decode cX11_play 21 = .ok (.aload_n 0, 1) := by decide +kernel
theorem dX11_play_22 : decode cX11_play 22 = .ok (.getfield 32, 3) := by decide +kernel
theorem dX11_play_25 : decode cX11_play 25 = .ok (.iload_n 1, 1) := by decide +kernel
theorem dX11_play_26 : decode cX11_play 26 = .ok (.invokevirtual 232, 3) := by decide +kernel
theorem dX11_play_29 : decode cX11_play 29 = .ok (.return_, 1) := by decide +kernel
theorem dX11_rests_0 : decode cX11_rests 0 = .ok (.iload_n 1, 1) := by decide +kernel
theorem dX11_rests_1 : decode cX11_rests 1 = .ok (.iconst 2, 1) := by decide +kernel
theorem dX11_rests_2 : decode cX11_rests 2 = .ok (.ixor, 1) := by decide +kernel
theorem dX11_rests_3 : decode cX11_rests 3 = .ok (.istore_n 2, 1) := by decide +kernel
theorem dX11_rests_4 : decode cX11_rests 4 = .ok (.iload_n 1, 1) := by decide +kernel
theorem dX11_rests_5 : decode cX11_rests 5 = .ok (.iconst 1, 1) := by decide +kernel
theorem dX11_rests_6 : decode cX11_rests 6 = .ok (.ixor, 1) := by decide +kernel
theorem dX11_rests_7 : decode cX11_rests 7 = .ok (.istore_n 3, 1) := by decide +kernel
theorem dX11_rests_8 : decode cX11_rests 8 = .ok (.aload_n 0, 1) := by decide +kernel
theorem dX11_rests_9 : decode cX11_rests 9 = .ok (.getfield 80, 3) := by decide +kernel
theorem dX11_rests_12 : decode cX11_rests 12 = .ok (.iconst 2, 1) := by decide +kernel
theorem dX11_rests_13 : decode cX11_rests 13 = .ok (.iload_n 1, 1) := by decide +kernel
theorem dX11_rests_14 : decode cX11_rests 14 = .ok (.imul, 1) := by decide +kernel
theorem dX11_rests_15 : decode cX11_rests 15 = .ok (.iaload, 1) := by decide +kernel
theorem dX11_rests_16 : decode cX11_rests 16 = .ok (.aload_n 0, 1) := by decide +kernel
theorem dX11_rests_17 : decode cX11_rests 17 = .ok (.getfield 80, 3) := by decide +kernel
theorem dX11_rests_20 : decode cX11_rests 20 = .ok (.iconst 2, 1) := by decide +kernel
theorem dX11_rests_21 : decode cX11_rests 21 = .ok (.iload_n 2, 1) := by decide +kernel
theorem dX11_rests_22 : decode cX11_rests 22 = .ok (.imul, 1) := by decide +kernel
theorem dX11_rests_23 : decode cX11_rests 23 = .ok (.iaload, 1) := by decide +kernel
theorem dX11_rests_24 : decode cX11_rests 24 = .ok (.if_icmp .lt 30, 3) := by decide +kernel
theorem dX11_rests_27 : decode cX11_rests 27 = .ok (.aload_n 0, 1) := by decide +kernel
theorem dX11_rests_28 : decode cX11_rests 28 = .ok (.getfield 80, 3) := by decide +kernel
theorem dX11_rests_31 : decode cX11_rests 31 = .ok (.iconst 2, 1) := by decide +kernel
theorem dX11_rests_32 : decode cX11_rests 32 = .ok (.iload_n 1, 1) := by decide +kernel
theorem dX11_rests_33 : decode cX11_rests 33 = .ok (.imul, 1) := by decide +kernel
theorem dX11_rests_34 : decode cX11_rests 34 = .ok (.iconst 1, 1) := by decide +kernel
theorem dX11_rests_35 : decode cX11_rests 35 = .ok (.iadd, 1) := by decide +kernel
theorem dX11_rests_36 : decode cX11_rests 36 = .ok (.iaload, 1) := by decide +kernel
theorem dX11_rests_37 : decode cX11_rests 37 = .ok (.aload_n 0, 1) := by decide +kernel
theorem dX11_rests_38 : decode cX11_rests 38 = .ok (.getfield 80, 3) := by decide +kernel
theorem dX11_rests_41 : decode cX11_rests 41 = .ok (.iconst 2, 1) := by decide +kernel
theorem dX11_rests_42 : decode cX11_rests 42 = .ok (.iload_n 3, 1) := by decide +kernel
theorem dX11_rests_43 : decode cX11_rests 43 = .ok (.imul, 1) := by decide +kernel
theorem dX11_rests_44 : decode cX11_rests 44 = .ok (.iconst 1, 1) := by decide +kernel
theorem dX11_rests_45 : decode cX11_rests 45 = .ok (.iadd, 1) := by decide +kernel
theorem dX11_rests_46 : decode cX11_rests 46 = .ok (.iaload, 1) := by decide +kernel
theorem dX11_rests_47 : decode cX11_rests 47 = .ok (.if_icmp .lt 7, 3) := by decide +kernel
theorem dX11_rests_50 : decode cX11_rests 50 = .ok (.iconst 1, 1) := by decide +kernel
theorem dX11_rests_51 : decode cX11_rests 51 = .ok (.goto 4, 3) := by decide +kernel
theorem dX11_rests_54 : decode cX11_rests 54 = .ok (.iconst 0, 1) := by decide +kernel
theorem dX11_rests_55 : decode cX11_rests 55 = .ok (.ireturn, 1) := by decide +kernel
theorem dX11_years_0 : decode cX11_years 0 = .ok (.iload_n 3, 1) := by decide +kernel
theorem dX11_years_1 : decode cX11_years 1 = .ok (.iconst 2, 1) := by decide +kernel
theorem dX11_years_2 : decode cX11_years 2 = .ok (.invokestatic 250, 3) := by decide +kernel
theorem dX11_years_5 : decode cX11_years 5 = .ok (.iload_n 2, 1) := by decide +kernel
theorem dX11_years_6 : decode cX11_years 6 = .ok (.iconst 0, 1) := by decide +kernel
theorem dX11_years_7 : decode cX11_years 7 = .ok (.invokestatic 253, 3) := by decide +kernel
theorem dX11_years_10 : decode cX11_years 10 = .ok (.aload_n 0, 1) := by decide +kernel
theorem dX11_years_11 : decode cX11_years 11 = .ok (.getfield 56, 3) := by decide +kernel
theorem dX11_years_14 : decode cX11_years 14 = .ok (.aload_n 0, 1) := by decide +kernel
theorem dX11_years_15 : decode cX11_years 15 = .ok (.getfield 42, 3) := by decide +kernel
theorem dX11_years_18 : decode cX11_years 18 = .ok (.getfield 84, 3) := by decide +kernel
theorem dX11_years_21 : decode cX11_years 21 = .ok (.invokevirtual 123, 3) := by decide +kernel
theorem dX11_years_24 : decode cX11_years 24 = .ok (.aload_n 0, 1) := by decide +kernel
theorem dX11_years_25 : decode cX11_years 25 = .ok (.iload_n 1, 1) := by decide +kernel
theorem dX11_years_26 : decode cX11_years 26 = .ok (.putfield 70, 3) := by decide +kernel
theorem dX11_years_29 : decode cX11_years 29 = .ok (.iconst 0, 1) := by decide +kernel
theorem dX11_years_30 : decode cX11_years 30 = .ok (.istore 4, 2) := by decide +kernel
theorem dX11_years_32 : decode cX11_years 32 = .ok (.iload 4, 2) := by decide +kernel
theorem dX11_years_34 : decode cX11_years 34 = .ok (.iload_n 2, 1) := by decide +kernel
theorem dX11_years_35 : decode cX11_years 35 = .ok (.if_icmp .ge 24, 3) := by decide +kernel
theorem dX11_years_38 : decode cX11_years 38 = .ok (.aload_n 0, 1) := by decide +kernel
theorem dX11_years_39 : decode cX11_years 39 = .ok (.invokevirtual 397, 3) := by decide +kernel
theorem dX11_years_42 : decode cX11_years 42 = .ok (.aload_n 0, 1) := by decide +kernel
theorem dX11_years_43 : decode cX11_years 43 = .ok (.getfield 56, 3) := by decide +kernel
theorem dX11_years_46 : decode cX11_years 46 = .ok (.aload_n 0, 1) := by decide +kernel
theorem dX11_years_47 : decode cX11_years 47 = .ok (.getfield 32, 3) := by decide +kernel
theorem dX11_years_50 : decode cX11_years 50 = .ok (.invokevirtual 268, 3) := by decide +kernel
theorem dX11_years_53 : decode cX11_years 53 = .ok (.iinc 4 1, 3) := by decide +kernel
theorem dX11_years_56 : decode cX11_years 56 = .ok (.goto (-24), 3) := by decide +kernel
theorem dX11_years_59 : decode cX11_years 59 = .ok (.iload_n 3, 1) := by decide +kernel
theorem dX11_years_60 : decode cX11_years 60 = .ok (.lookupswitch 55 #[(0, 28), (1, 43)], 28) := by decide +kernel
theorem dX11_years_88 : decode cX11_years 88 = .ok (.aload_n 0, 1) := by decide +kernel
theorem dX11_years_89 : decode cX11_years 89 = .ok (.getfield 56, 3) := by decide +kernel
theorem dX11_years_92 : decode cX11_years 92 = .ok (.aload_n 0, 1) := by decide +kernel
theorem dX11_years_93 : decode cX11_years 93 = .ok (.getfield 32, 3) := by decide +kernel
theorem dX11_years_96 : decode cX11_years 96 = .ok (.invokevirtual 159, 3) := by decide +kernel
theorem dX11_years_99 : decode cX11_years 99 = .ok (.invokestatic 286, 3) := by decide +kernel
theorem dX11_years_102 : decode cX11_years 102 = .ok (.ireturn, 1) := by decide +kernel
theorem dX11_years_103 : decode cX11_years 103 = .ok (.aload_n 0, 1) := by decide +kernel
theorem dX11_years_104 : decode cX11_years 104 = .ok (.getfield 56, 3) := by decide +kernel
theorem dX11_years_107 : decode cX11_years 107 = .ok (.aload_n 0, 1) := by decide +kernel
theorem dX11_years_108 : decode cX11_years 108 = .ok (.getfield 32, 3) := by decide +kernel
theorem dX11_years_111 : decode cX11_years 111 = .ok (.invokevirtual 163, 3) := by decide +kernel
theorem dX11_years_114 : decode cX11_years 114 = .ok (.ireturn, 1) := by decide +kernel
theorem dX11_years_115 : decode cX11_years 115 = .ok (.aload_n 0, 1) := by decide +kernel
theorem dX11_years_116 : decode cX11_years 116 = .ok (.getfield 56, 3) := by decide +kernel
theorem dX11_years_119 : decode cX11_years 119 = .ok (.aload_n 0, 1) := by decide +kernel
theorem dX11_years_120 : decode cX11_years 120 = .ok (.getfield 32, 3) := by decide +kernel
theorem dX11_years_123 : decode cX11_years 123 = .ok (.invokevirtual 166, 3) := by decide +kernel
theorem dX11_years_126 : decode cX11_years 126 = .ok (.ireturn, 1) := by decide +kernel
theorem dX11_befall_0 : decode cX11_befall 0 = .ok (.aload_n 0, 1) := by decide +kernel
theorem dX11_befall_1 : decode cX11_befall 1 = .ok (.bipush 6, 2) := by decide +kernel
theorem dX11_befall_3 : decode cX11_befall 3 = .ok (.invokevirtual 400, 3) := by decide +kernel
theorem dX11_befall_6 : decode cX11_befall 6 = .ok (.istore_n 1, 1) := by decide +kernel
theorem dX11_befall_7 : decode cX11_befall 7 = .ok (.iload_n 1, 1) := by decide +kernel
theorem dX11_befall_8 : decode cX11_befall 8 = .ok (.ifCond .ne 40, 3) := by decide +kernel
theorem dX11_befall_11 : decode cX11_befall 11 = .ok (.aload_n 0, 1) := by decide +kernel
theorem dX11_befall_12 : decode cX11_befall 12 = .ok (.aload_n 0, 1) := by decide +kernel
theorem dX11_befall_13 : decode cX11_befall 13 = .ok (.getfield 32, 3) := by decide +kernel
theorem dX11_befall_16 : decode cX11_befall 16 = .ok (.getfield 141, 3) := by decide +kernel
theorem dX11_befall_19 : decode cX11_befall 19 = .ok (.invokevirtual 400, 3) := by decide +kernel
theorem dX11_befall_22 : decode cX11_befall 22 = .ok (.istore_n 2, 1) := by decide +kernel
theorem dX11_befall_23 : decode cX11_befall 23 = .ok (.aload_n 0, 1) := by decide +kernel
theorem dX11_befall_24 : decode cX11_befall 24 = .ok (.bipush 20, 2) := by decide +kernel
theorem dX11_befall_26 : decode cX11_befall 26 = .ok (.invokevirtual 400, 3) := by decide +kernel
theorem dX11_befall_29 : decode cX11_befall 29 = .ok (.iconst 1, 1) := by decide +kernel
theorem dX11_befall_30 : decode cX11_befall 30 = .ok (.iadd, 1) := by decide +kernel
theorem dX11_befall_31 : decode cX11_befall 31 = .ok (.istore_n 3, 1) := by decide +kernel
theorem dX11_befall_32 : decode cX11_befall 32 = .ok (.aload_n 0, 1) := by decide +kernel
theorem dX11_befall_33 : decode cX11_befall 33 = .ok (.getfield 56, 3) := by decide +kernel
theorem dX11_befall_36 : decode cX11_befall 36 = .ok (.aload_n 0, 1) := by decide +kernel
theorem dX11_befall_37 : decode cX11_befall 37 = .ok (.getfield 32, 3) := by decide +kernel
theorem dX11_befall_40 : decode cX11_befall 40 = .ok (.iload_n 2, 1) := by decide +kernel
theorem dX11_befall_41 : decode cX11_befall 41 = .ok (.iload_n 3, 1) := by decide +kernel
theorem dX11_befall_42 : decode cX11_befall 42 = .ok (.invokevirtual 243, 3) := by decide +kernel
theorem dX11_befall_45 : decode cX11_befall 45 = .ok (.goto 65, 3) := by decide +kernel
theorem dX11_befall_48 : decode cX11_befall 48 = .ok (.iload_n 1, 1) := by decide +kernel
theorem dX11_befall_49 : decode cX11_befall 49 = .ok (.iconst 1, 1) := by decide +kernel
theorem dX11_befall_50 : decode cX11_befall 50 = .ok (.if_icmp .ne 26, 3) := by decide +kernel
theorem dX11_befall_53 : decode cX11_befall 53 = .ok (.aload_n 0, 1) := by decide +kernel
theorem dX11_befall_54 : decode cX11_befall 54 = .ok (.getfield 56, 3) := by decide +kernel
theorem dX11_befall_57 : decode cX11_befall 57 = .ok (.aload_n 0, 1) := by decide +kernel
theorem dX11_befall_58 : decode cX11_befall 58 = .ok (.aload_n 0, 1) := by decide +kernel
theorem dX11_befall_59 : decode cX11_befall 59 = .ok (.getfield 32, 3) := by decide +kernel
theorem dX11_befall_62 : decode cX11_befall 62 = .ok (.getfield 141, 3) := by decide +kernel
theorem dX11_befall_65 : decode cX11_befall 65 = .ok (.invokevirtual 400, 3) := by decide +kernel
theorem dX11_befall_68 : decode cX11_befall 68 = .ok (.bipush 9, 2) := by decide +kernel
theorem dX11_befall_70 : decode cX11_befall 70 = .ok (.invokevirtual 403, 3) := by decide +kernel
theorem dX11_befall_73 : decode cX11_befall 73 = .ok (.goto 37, 3) := by decide +kernel
theorem dX11_befall_76 : decode cX11_befall 76 = .ok (.iload_n 1, 1) := by decide +kernel
theorem dX11_befall_77 : decode cX11_befall 77 = .ok (.iconst 2, 1) := by decide +kernel
theorem dX11_befall_78 : decode cX11_befall 78 = .ok (.if_icmp .ne 32, 3) := by decide +kernel
theorem dX11_befall_81 : decode cX11_befall 81 = .ok (.aload_n 0, 1) := by decide +kernel
theorem dX11_befall_82 : decode cX11_befall 82 = .ok (.getfield 32, 3) := by decide +kernel
theorem dX11_befall_85 : decode cX11_befall 85 = .ok (.getfield 144, 3) := by decide +kernel
theorem dX11_befall_88 : decode cX11_befall 88 = .ok (.ifCond .le 22, 3) := by decide +kernel
theorem dX11_befall_91 : decode cX11_befall 91 = .ok (.aload_n 0, 1) := by decide +kernel
theorem dX11_befall_92 : decode cX11_befall 92 = .ok (.getfield 56, 3) := by decide +kernel
theorem dX11_befall_95 : decode cX11_befall 95 = .ok (.aload_n 0, 1) := by decide +kernel
theorem dX11_befall_96 : decode cX11_befall 96 = .ok (.aload_n 0, 1) := by decide +kernel
theorem dX11_befall_97 : decode cX11_befall 97 = .ok (.getfield 32, 3) := by decide +kernel
theorem dX11_befall_100 : decode cX11_befall 100 = .ok (.getfield 144, 3) := by decide +kernel
theorem dX11_befall_103 : decode cX11_befall 103 = .ok (.invokevirtual 400, 3) := by decide +kernel
theorem dX11_befall_106 : decode cX11_befall 106 = .ok (.iconst 5, 1) := by decide +kernel
theorem dX11_befall_107 : decode cX11_befall 107 = .ok (.invokevirtual 239, 3) := by decide +kernel
theorem dX11_befall_110 : decode cX11_befall 110 = .ok (.return_, 1) := by decide +kernel
theorem dX11_draw_0 : decode cX11_draw 0 = .ok (.aload_n 0, 1) := by decide +kernel
theorem dX11_draw_1 : decode cX11_draw 1 = .ok (.aload_n 0, 1) := by decide +kernel
theorem dX11_draw_2 : decode cX11_draw 2 = .ok (.getfield 70, 3) := by decide +kernel
theorem dX11_draw_5 : decode cX11_draw 5 = .ok (.ldc_w 406, 3) := by decide +kernel
theorem dX11_draw_8 : decode cX11_draw 8 = .ok (.imul, 1) := by decide +kernel
theorem dX11_draw_9 : decode cX11_draw 9 = .ok (.sipush 12345, 3) := by decide +kernel
theorem dX11_draw_12 : decode cX11_draw 12 = .ok (.iadd, 1) := by decide +kernel
theorem dX11_draw_13 : decode cX11_draw 13 = .ok (.putfield 70, 3) := by decide +kernel
theorem dX11_draw_16 : decode cX11_draw 16 = .ok (.iload_n 1, 1) := by decide +kernel
theorem dX11_draw_17 : decode cX11_draw 17 = .ok (.iconst 1, 1) := by decide +kernel
theorem dX11_draw_18 : decode cX11_draw 18 = .ok (.if_icmp .ge 7, 3) := by decide +kernel
theorem dX11_draw_21 : decode cX11_draw 21 = .ok (.iconst 0, 1) := by decide +kernel
theorem dX11_draw_22 : decode cX11_draw 22 = .ok (.goto 16, 3) := by decide +kernel
theorem dX11_draw_25 : decode cX11_draw 25 = .ok (.aload_n 0, 1) := by decide +kernel
theorem dX11_draw_26 : decode cX11_draw 26 = .ok (.getfield 70, 3) := by decide +kernel
theorem dX11_draw_29 : decode cX11_draw 29 = .ok (.bipush 16, 2) := by decide +kernel
theorem dX11_draw_31 : decode cX11_draw 31 = .ok (.iushr, 1) := by decide +kernel
theorem dX11_draw_32 : decode cX11_draw 32 = .ok (.sipush 32767, 3) := by decide +kernel
theorem dX11_draw_35 : decode cX11_draw 35 = .ok (.iand, 1) := by decide +kernel
theorem dX11_draw_36 : decode cX11_draw 36 = .ok (.iload_n 1, 1) := by decide +kernel
theorem dX11_draw_37 : decode cX11_draw 37 = .ok (.irem, 1) := by decide +kernel
theorem dX11_draw_38 : decode cX11_draw 38 = .ok (.ireturn, 1) := by decide +kernel
theorem dX11_image_0 : decode cX11_image 0 = .ok (.aload_n 0, 1) := by decide +kernel
theorem dX11_image_1 : decode cX11_image 1 = .ok (.getfield 46, 3) := by decide +kernel
theorem dX11_image_4 : decode cX11_image 4 = .ok (.aload_n 0, 1) := by decide +kernel
theorem dX11_image_5 : decode cX11_image 5 = .ok (.getfield 42, 3) := by decide +kernel
theorem dX11_image_8 : decode cX11_image 8 = .ok (.invokevirtual 407, 3) := by decide +kernel
theorem dX11_image_11 : decode cX11_image 11 = .ok (.aload_n 0, 1) := by decide +kernel
theorem dX11_image_12 : decode cX11_image 12 = .ok (.iconst 1, 1) := by decide +kernel
theorem dX11_image_13 : decode cX11_image 13 = .ok (.putfield 49, 3) := by decide +kernel
theorem dX11_image_16 : decode cX11_image 16 = .ok (.return_, 1) := by decide +kernel
theorem dX11_restore_0 : decode cX11_restore 0 = .ok (.aload_n 0, 1) := by decide +kernel
theorem dX11_restore_1 : decode cX11_restore 1 = .ok (.getfield 49, 3) := by decide +kernel
theorem dX11_restore_4 : decode cX11_restore 4 = .ok (.ifCond .ne 5, 3) := by decide +kernel
theorem dX11_restore_7 : decode cX11_restore 7 = .ok (.iconst 0, 1) := by decide +kernel
theorem dX11_restore_8 : decode cX11_restore 8 = .ok (.ireturn, 1) := by decide +kernel
theorem dX11_restore_9 : decode cX11_restore 9 = .ok (.aload_n 0, 1) := by decide +kernel
theorem dX11_restore_10 : decode cX11_restore 10 = .ok (.getfield 42, 3) := by decide +kernel
theorem dX11_restore_13 : decode cX11_restore 13 = .ok (.aload_n 0, 1) := by decide +kernel
theorem dX11_restore_14 : decode cX11_restore 14 = .ok (.getfield 46, 3) := by decide +kernel
theorem dX11_restore_17 : decode cX11_restore 17 = .ok (.invokevirtual 407, 3) := by decide +kernel
theorem dX11_restore_20 : decode cX11_restore 20 = .ok (.iconst 1, 1) := by decide +kernel
theorem dX11_restore_21 : decode cX11_restore 21 = .ok (.ireturn, 1) := by decide +kernel
theorem dX11_isStretch_0 : decode cX11_isStretch 0 = .ok (.iload_n 1, 1) := by decide +kernel
theorem dX11_isStretch_1 : decode cX11_isStretch 1 = .ok (.ifCond .lt 18, 3) := by decide +kernel
theorem dX11_isStretch_4 : decode cX11_isStretch 4 = .ok (.iload_n 1, 1) := by decide +kernel
theorem dX11_isStretch_5 : decode cX11_isStretch 5 = .ok (.aload_n 0, 1) := by decide +kernel
theorem dX11_isStretch_6 : decode cX11_isStretch 6 = .ok (.getfield 32, 3) := by decide +kernel
theorem dX11_isStretch_9 : decode cX11_isStretch 9 = .ok (.getfield 141, 3) := by decide +kernel
theorem dX11_isStretch_12 : decode cX11_isStretch 12 = .ok (.if_icmp .ge 7, 3) := by decide +kernel
theorem dX11_isStretch_15 : decode cX11_isStretch 15 = .ok (.iconst 1, 1) := by decide +kernel
theorem dX11_isStretch_16 : decode cX11_isStretch 16 = .ok (.goto 4, 3) := by decide +kernel
theorem dX11_isStretch_19 : decode cX11_isStretch 19 = .ok (.iconst 0, 1) := by decide +kernel
theorem dX11_isStretch_20 : decode cX11_isStretch 20 = .ok (.ireturn, 1) := by decide +kernel
theorem dX11_needStretch_0 : decode cX11_needStretch 0 = .ok (.aload_n 0, 1) := by decide +kernel
theorem dX11_needStretch_1 : decode cX11_needStretch 1 = .ok (.iload_n 1, 1) := by decide +kernel
theorem dX11_needStretch_2 : decode cX11_needStretch 2 = .ok (.invokevirtual 295, 3) := by decide +kernel
theorem dX11_needStretch_5 : decode cX11_needStretch 5 = .ok (.ifCond .ne 14, 3) := by decide +kernel
theorem dX11_needStretch_8 : decode cX11_needStretch 8 = .ok (.new 174, 3) := by decide +kernel
theorem dX11_needStretch_11 : decode cX11_needStretch 11 = .ok (.dup, 1) := by decide +kernel
theorem dX11_needStretch_12 : decode cX11_needStretch 12 = .ok (.ldc_w 410, 3) := by decide +kernel
theorem dX11_needStretch_15 : decode cX11_needStretch 15 = .ok (.invokespecial 178, 3) := by decide +kernel
theorem dX11_needStretch_18 : decode cX11_needStretch 18 = .ok (.athrow, 1) := by decide +kernel
theorem dX11_needStretch_19 : decode cX11_needStretch 19 = .ok (.return_, 1) := by decide +kernel
theorem dX11_needWoman_0 : decode cX11_needWoman 0 = .ok (.iload_n 1, 1) := by decide +kernel
theorem dX11_needWoman_1 : decode cX11_needWoman 1 = .ok (.ifCond .lt 14, 3) := by decide +kernel
theorem dX11_needWoman_4 : decode cX11_needWoman 4 = .ok (.iload_n 1, 1) := by decide +kernel
theorem dX11_needWoman_5 : decode cX11_needWoman 5 = .ok (.aload_n 0, 1) := by decide +kernel
theorem dX11_needWoman_6 : decode cX11_needWoman 6 = .ok (.getfield 32, 3) := by decide +kernel
theorem dX11_needWoman_9 : decode cX11_needWoman 9 = .ok (.getfield 144, 3) := by decide +kernel
theorem dX11_needWoman_12 : decode cX11_needWoman 12 = .ok (.if_icmp .lt 14, 3) := by decide +kernel
theorem dX11_needWoman_15 : decode cX11_needWoman 15 = .ok (.new 174, 3) := by decide +kernel
theorem dX11_needWoman_18 : decode cX11_needWoman 18 = .ok (.dup, 1) := by decide +kernel
theorem dX11_needWoman_19 : decode cX11_needWoman 19 = .ok (.ldc_w 412, 3) := by decide +kernel
theorem dX11_needWoman_22 : decode cX11_needWoman 22 = .ok (.invokespecial 178, 3) := by decide +kernel
theorem dX11_needWoman_25 : decode cX11_needWoman 25 = .ok (.athrow, 1) := by decide +kernel
theorem dX11_needWoman_26 : decode cX11_needWoman 26 = .ok (.return_, 1) := by decide +kernel
theorem dX11_needWhat_0 : decode cX11_needWhat 0 = .ok (.iload_n 0, 1) := by decide +kernel
theorem dX11_needWhat_1 : decode cX11_needWhat 1 = .ok (.ifCond .lt 8, 3) := by decide +kernel
theorem dX11_needWhat_4 : decode cX11_needWhat 4 = .ok (.iload_n 0, 1) := by decide +kernel
theorem dX11_needWhat_5 : decode cX11_needWhat 5 = .ok (.iload_n 1, 1) := by decide +kernel
theorem dX11_needWhat_6 : decode cX11_needWhat 6 = .ok (.if_icmp .le 14, 3) := by decide +kernel
theorem dX11_needWhat_9 : decode cX11_needWhat 9 = .ok (.new 174, 3) := by decide +kernel
theorem dX11_needWhat_12 : decode cX11_needWhat 12 = .ok (.dup, 1) := by decide +kernel
theorem dX11_needWhat_13 : decode cX11_needWhat 13 = .ok (.ldc_w 414, 3) := by decide +kernel
theorem dX11_needWhat_16 : decode cX11_needWhat 16 = .ok (.invokespecial 178, 3) := by decide +kernel
theorem dX11_needWhat_19 : decode cX11_needWhat 19 = .ok (.athrow, 1) := by decide +kernel
theorem dX11_needWhat_20 : decode cX11_needWhat 20 = .ok (.return_, 1) := by decide +kernel
theorem dX11_needDays_0 : decode cX11_needDays 0 = .ok (.iload_n 0, 1) := by decide +kernel
theorem dX11_needDays_1 : decode cX11_needDays 1 = .ok (.iload_n 1, 1) := by decide +kernel
theorem dX11_needDays_2 : decode cX11_needDays 2 = .ok (.if_icmp .lt 9, 3) := by decide +kernel
theorem dX11_needDays_5 : decode cX11_needDays 5 = .ok (.iload_n 0, 1) := by decide +kernel
theorem dX11_needDays_6 : decode cX11_needDays 6 = .ok (.bipush 60, 2) := by decide +kernel
theorem dX11_needDays_8 : decode cX11_needDays 8 = .ok (.if_icmp .le 14, 3) := by decide +kernel
theorem dX11_needDays_11 : decode cX11_needDays 11 = .ok (.new 95, 3) := by decide +kernel
theorem dX11_needDays_14 : decode cX11_needDays 14 = .ok (.dup, 1) := by decide +kernel
theorem dX11_needDays_15 : decode cX11_needDays 15 = .ok (.ldc_w 416, 3) := by decide +kernel
theorem dX11_needDays_18 : decode cX11_needDays 18 = .ok (.invokespecial 99, 3) := by decide +kernel
theorem dX11_needDays_21 : decode cX11_needDays 21 = .ok (.athrow, 1) := by decide +kernel
theorem dX11_needDays_22 : decode cX11_needDays 22 = .ok (.return_, 1) := by decide +kernel
theorem dX11_fillUp_0 : decode cX11_fillUp 0 = .ok (.aload_n 0, 1) := by decide +kernel
theorem dX11_fillUp_1 : decode cX11_fillUp 1 = .ok (.getfield 141, 3) := by decide +kernel
theorem dX11_fillUp_4 : decode cX11_fillUp 4 = .ok (.istore_n 2, 1) := by decide +kernel
theorem dX11_fillUp_5 : decode cX11_fillUp 5 = .ok (.iload_n 2, 1) := by decide +kernel
theorem dX11_fillUp_6 : decode cX11_fillUp 6 = .ok (.iconst 3, 1) := by decide +kernel
theorem dX11_fillUp_7 : decode cX11_fillUp 7 = .ok (.if_icmp .ge 18, 3) := by decide +kernel
theorem dX11_fillUp_10 : decode cX11_fillUp 10 = .ok (.aload_n 1, 1) := by decide +kernel
theorem dX11_fillUp_11 : decode cX11_fillUp 11 = .ok (.iload_n 2, 1) := by decide +kernel
theorem dX11_fillUp_12 : decode cX11_fillUp 12 = .ok (.iconst 0, 1) := by decide +kernel
theorem dX11_fillUp_13 : decode cX11_fillUp 13 = .ok (.bipush 50, 2) := by decide +kernel
theorem dX11_fillUp_15 : decode cX11_fillUp 15 = .ok (.iconst 0, 1) := by decide +kernel
theorem dX11_fillUp_16 : decode cX11_fillUp 16 = .ok (.invokevirtual 418, 3) := by decide +kernel
theorem dX11_fillUp_19 : decode cX11_fillUp 19 = .ok (.iinc 2 1, 3) := by decide +kernel
theorem dX11_fillUp_22 : decode cX11_fillUp 22 = .ok (.goto (-17), 3) := by decide +kernel
theorem dX11_fillUp_25 : decode cX11_fillUp 25 = .ok (.aload_n 0, 1) := by decide +kernel
theorem dX11_fillUp_26 : decode cX11_fillUp 26 = .ok (.aload_n 0, 1) := by decide +kernel
theorem dX11_fillUp_27 : decode cX11_fillUp 27 = .ok (.getfield 141, 3) := by decide +kernel
theorem dX11_fillUp_30 : decode cX11_fillUp 30 = .ok (.iconst 3, 1) := by decide +kernel
theorem dX11_fillUp_31 : decode cX11_fillUp 31 = .ok (.invokestatic 422, 3) := by decide +kernel
theorem dX11_fillUp_34 : decode cX11_fillUp 34 = .ok (.putfield 141, 3) := by decide +kernel
theorem dX11_fillUp_37 : decode cX11_fillUp 37 = .ok (.return_, 1) := by decide +kernel
theorem dX11_leastBit_0 : decode cX11_leastBit 0 = .ok (.iconst 0, 1) := by decide +kernel
theorem dX11_leastBit_1 : decode cX11_leastBit 1 = .ok (.istore_n 1, 1) := by decide +kernel
theorem dX11_leastBit_2 : decode cX11_leastBit 2 = .ok (.iload_n 1, 1) := by decide +kernel
theorem dX11_leastBit_3 : decode cX11_leastBit 3 = .ok (.bipush 32, 2) := by decide +kernel
theorem dX11_leastBit_5 : decode cX11_leastBit 5 = .ok (.if_icmp .ge 20, 3) := by decide +kernel
theorem dX11_leastBit_8 : decode cX11_leastBit 8 = .ok (.iload_n 0, 1) := by decide +kernel
theorem dX11_leastBit_9 : decode cX11_leastBit 9 = .ok (.iload_n 1, 1) := by decide +kernel
theorem dX11_leastBit_10 : decode cX11_leastBit 10 = .ok (.ishr, 1) := by decide +kernel
theorem dX11_leastBit_11 : decode cX11_leastBit 11 = .ok (.iconst 1, 1) := by decide +kernel
theorem dX11_leastBit_12 : decode cX11_leastBit 12 = .ok (.iand, 1) := by decide +kernel
theorem dX11_leastBit_13 : decode cX11_leastBit 13 = .ok (.iconst 1, 1) := by decide +kernel
theorem dX11_leastBit_14 : decode cX11_leastBit 14 = .ok (.if_icmp .ne 5, 3) := by decide +kernel
theorem dX11_leastBit_17 : decode cX11_leastBit 17 = .ok (.iload_n 1, 1) := by decide +kernel
theorem dX11_leastBit_18 : decode cX11_leastBit 18 = .ok (.ireturn, 1) := by decide +kernel
theorem dX11_leastBit_19 : decode cX11_leastBit 19 = .ok (.iinc 1 1, 3) := by decide +kernel
theorem dX11_leastBit_22 : decode cX11_leastBit 22 = .ok (.goto (-20), 3) := by decide +kernel
theorem dX11_leastBit_25 : decode cX11_leastBit 25 = .ok (.iconst (-1), 1) := by decide +kernel
theorem dX11_leastBit_26 : decode cX11_leastBit 26 = .ok (.ireturn, 1) := by decide +kernel
theorem dX11_within_0 : decode cX11_within 0 = .ok (.iload_n 1, 1) := by decide +kernel
theorem dX11_within_1 : decode cX11_within 1 = .ok (.iload_n 2, 1) := by decide +kernel
theorem dX11_within_2 : decode cX11_within 2 = .ok (.iload_n 0, 1) := by decide +kernel
theorem dX11_within_3 : decode cX11_within 3 = .ok (.invokestatic 427, 3) := by decide +kernel
theorem dX11_within_6 : decode cX11_within 6 = .ok (.invokestatic 422, 3) := by decide +kernel
theorem dX11_within_9 : decode cX11_within 9 = .ok (.ireturn, 1) := by decide +kernel
theorem dJ6_bitCount_0f7a4_0 : decode cJ6_bitCount_0f7a4 0 = .ok (.iload_n 0, 1) := by decide +kernel
theorem dJ6_bitCount_0f7a4_1 : decode cJ6_bitCount_0f7a4 1 = .ok (.iload_n 0, 1) := by decide +kernel
theorem dJ6_bitCount_0f7a4_2 : decode cJ6_bitCount_0f7a4 2 = .ok (.iconst 1, 1) := by decide +kernel
theorem dJ6_bitCount_0f7a4_3 : decode cJ6_bitCount_0f7a4 3 = .ok (.iushr, 1) := by decide +kernel
theorem dJ6_bitCount_0f7a4_4 : decode cJ6_bitCount_0f7a4 4 = .ok (.ldc_w 265, 3) := by decide +kernel
theorem dJ6_bitCount_0f7a4_7 : decode cJ6_bitCount_0f7a4 7 = .ok (.iand, 1) := by decide +kernel
theorem dJ6_bitCount_0f7a4_8 : decode cJ6_bitCount_0f7a4 8 = .ok (.isub, 1) := by decide +kernel
theorem dJ6_bitCount_0f7a4_9 : decode cJ6_bitCount_0f7a4 9 = .ok (.istore_n 0, 1) := by decide +kernel
theorem dJ6_bitCount_0f7a4_10 : decode cJ6_bitCount_0f7a4 10 = .ok (.iload_n 0, 1) := by decide +kernel
theorem dJ6_bitCount_0f7a4_11 : decode cJ6_bitCount_0f7a4 11 = .ok (.ldc_w 266, 3) := by decide +kernel
theorem dJ6_bitCount_0f7a4_14 : decode cJ6_bitCount_0f7a4 14 = .ok (.iand, 1) := by decide +kernel
theorem dJ6_bitCount_0f7a4_15 : decode cJ6_bitCount_0f7a4 15 = .ok (.iload_n 0, 1) := by decide +kernel
theorem dJ6_bitCount_0f7a4_16 : decode cJ6_bitCount_0f7a4 16 = .ok (.iconst 2, 1) := by decide +kernel
theorem dJ6_bitCount_0f7a4_17 : decode cJ6_bitCount_0f7a4 17 = .ok (.iushr, 1) := by decide +kernel
theorem dJ6_bitCount_0f7a4_18 : decode cJ6_bitCount_0f7a4 18 = .ok (.ldc_w 266, 3) := by decide +kernel
theorem dJ6_bitCount_0f7a4_21 : decode cJ6_bitCount_0f7a4 21 = .ok (.iand, 1) := by decide +kernel
theorem dJ6_bitCount_0f7a4_22 : decode cJ6_bitCount_0f7a4 22 = .ok (.iadd, 1) := by decide +kernel
theorem dJ6_bitCount_0f7a4_23 : decode cJ6_bitCount_0f7a4 23 = .ok (.istore_n 0, 1) := by decide +kernel
theorem dJ6_bitCount_0f7a4_24 : decode cJ6_bitCount_0f7a4 24 = .ok (.iload_n 0, 1) := by decide +kernel
theorem dJ6_bitCount_0f7a4_25 : decode cJ6_bitCount_0f7a4 25 = .ok (.iload_n 0, 1) := by decide +kernel
theorem dJ6_bitCount_0f7a4_26 : decode cJ6_bitCount_0f7a4 26 = .ok (.iconst 4, 1) := by decide +kernel
theorem dJ6_bitCount_0f7a4_27 : decode cJ6_bitCount_0f7a4 27 = .ok (.iushr, 1) := by decide +kernel
theorem dJ6_bitCount_0f7a4_28 : decode cJ6_bitCount_0f7a4 28 = .ok (.iadd, 1) := by decide +kernel
theorem dJ6_bitCount_0f7a4_29 : decode cJ6_bitCount_0f7a4 29 = .ok (.ldc_w 267, 3) := by decide +kernel
theorem dJ6_bitCount_0f7a4_32 : decode cJ6_bitCount_0f7a4 32 = .ok (.iand, 1) := by decide +kernel
theorem dJ6_bitCount_0f7a4_33 : decode cJ6_bitCount_0f7a4 33 = .ok (.istore_n 0, 1) := by decide +kernel
theorem dJ6_bitCount_0f7a4_34 : decode cJ6_bitCount_0f7a4 34 = .ok (.iload_n 0, 1) := by decide +kernel
theorem dJ6_bitCount_0f7a4_35 : decode cJ6_bitCount_0f7a4 35 = .ok (.iload_n 0, 1) := by decide +kernel
theorem dJ6_bitCount_0f7a4_36 : decode cJ6_bitCount_0f7a4 36 = .ok (.bipush 8, 2) := by decide +kernel
theorem dJ6_bitCount_0f7a4_38 : decode cJ6_bitCount_0f7a4 38 = .ok (.iushr, 1) := by decide +kernel
theorem dJ6_bitCount_0f7a4_39 : decode cJ6_bitCount_0f7a4 39 = .ok (.iadd, 1) := by decide +kernel
theorem dJ6_bitCount_0f7a4_40 : decode cJ6_bitCount_0f7a4 40 = .ok (.istore_n 0, 1) := by decide +kernel
theorem dJ6_bitCount_0f7a4_41 : decode cJ6_bitCount_0f7a4 41 = .ok (.iload_n 0, 1) := by decide +kernel
theorem dJ6_bitCount_0f7a4_42 : decode cJ6_bitCount_0f7a4 42 = .ok (.iload_n 0, 1) := by decide +kernel
theorem dJ6_bitCount_0f7a4_43 : decode cJ6_bitCount_0f7a4 43 = .ok (.bipush 16, 2) := by decide +kernel
theorem dJ6_bitCount_0f7a4_45 : decode cJ6_bitCount_0f7a4 45 = .ok (.iushr, 1) := by decide +kernel
theorem dJ6_bitCount_0f7a4_46 : decode cJ6_bitCount_0f7a4 46 = .ok (.iadd, 1) := by decide +kernel
theorem dJ6_bitCount_0f7a4_47 : decode cJ6_bitCount_0f7a4 47 = .ok (.istore_n 0, 1) := by decide +kernel
theorem dJ6_bitCount_0f7a4_48 : decode cJ6_bitCount_0f7a4 48 = .ok (.iload_n 0, 1) := by decide +kernel
theorem dJ6_bitCount_0f7a4_49 : decode cJ6_bitCount_0f7a4 49 = .ok (.bipush 63, 2) := by decide +kernel
theorem dJ6_bitCount_0f7a4_51 : decode cJ6_bitCount_0f7a4 51 = .ok (.iand, 1) := by decide +kernel
theorem dJ6_bitCount_0f7a4_52 : decode cJ6_bitCount_0f7a4 52 = .ok (.ireturn, 1) := by decide +kernel
theorem dJ13_bitCount_95d88_0 : decode cJ13_bitCount_95d88 0 = .ok (.lload_n 0, 1) := by decide +kernel
theorem dJ13_bitCount_95d88_1 : decode cJ13_bitCount_95d88 1 = .ok (.lload_n 0, 1) := by decide +kernel
theorem dJ13_bitCount_95d88_2 : decode cJ13_bitCount_95d88 2 = .ok (.iconst 1, 1) := by decide +kernel
theorem dJ13_bitCount_95d88_3 : decode cJ13_bitCount_95d88 3 = .ok (.lushr, 1) := by decide +kernel
theorem dJ13_bitCount_95d88_4 : decode cJ13_bitCount_95d88 4 = .ok (.ldc2_w 314, 3) := by decide +kernel
theorem dJ13_bitCount_95d88_7 : decode cJ13_bitCount_95d88 7 = .ok (.land, 1) := by decide +kernel
theorem dJ13_bitCount_95d88_8 : decode cJ13_bitCount_95d88 8 = .ok (.lsub, 1) := by decide +kernel
theorem dJ13_bitCount_95d88_9 : decode cJ13_bitCount_95d88 9 = .ok (.lstore_n 0, 1) := by decide +kernel
theorem dJ13_bitCount_95d88_10 : decode cJ13_bitCount_95d88 10 = .ok (.lload_n 0, 1) := by decide +kernel
theorem dJ13_bitCount_95d88_11 : decode cJ13_bitCount_95d88 11 = .ok (.ldc2_w 316, 3) := by decide +kernel
theorem dJ13_bitCount_95d88_14 : decode cJ13_bitCount_95d88 14 = .ok (.land, 1) := by decide +kernel
theorem dJ13_bitCount_95d88_15 : decode cJ13_bitCount_95d88 15 = .ok (.lload_n 0, 1) := by decide +kernel
theorem dJ13_bitCount_95d88_16 : decode cJ13_bitCount_95d88 16 = .ok (.iconst 2, 1) := by decide +kernel
theorem dJ13_bitCount_95d88_17 : decode cJ13_bitCount_95d88 17 = .ok (.lushr, 1) := by decide +kernel
theorem dJ13_bitCount_95d88_18 : decode cJ13_bitCount_95d88 18 = .ok (.ldc2_w 316, 3) := by decide +kernel
theorem dJ13_bitCount_95d88_21 : decode cJ13_bitCount_95d88 21 = .ok (.land, 1) := by decide +kernel
theorem dJ13_bitCount_95d88_22 : decode cJ13_bitCount_95d88 22 = .ok (.ladd, 1) := by decide +kernel
theorem dJ13_bitCount_95d88_23 : decode cJ13_bitCount_95d88 23 = .ok (.lstore_n 0, 1) := by decide +kernel
theorem dJ13_bitCount_95d88_24 : decode cJ13_bitCount_95d88 24 = .ok (.lload_n 0, 1) := by decide +kernel
theorem dJ13_bitCount_95d88_25 : decode cJ13_bitCount_95d88 25 = .ok (.lload_n 0, 1) := by decide +kernel
theorem dJ13_bitCount_95d88_26 : decode cJ13_bitCount_95d88 26 = .ok (.iconst 4, 1) := by decide +kernel
theorem dJ13_bitCount_95d88_27 : decode cJ13_bitCount_95d88 27 = .ok (.lushr, 1) := by decide +kernel
theorem dJ13_bitCount_95d88_28 : decode cJ13_bitCount_95d88 28 = .ok (.ladd, 1) := by decide +kernel
theorem dJ13_bitCount_95d88_29 : decode cJ13_bitCount_95d88 29 = .ok (.ldc2_w 318, 3) := by decide +kernel
theorem dJ13_bitCount_95d88_32 : decode cJ13_bitCount_95d88 32 = .ok (.land, 1) := by decide +kernel
theorem dJ13_bitCount_95d88_33 : decode cJ13_bitCount_95d88 33 = .ok (.lstore_n 0, 1) := by decide +kernel
theorem dJ13_bitCount_95d88_34 : decode cJ13_bitCount_95d88 34 = .ok (.lload_n 0, 1) := by decide +kernel
theorem dJ13_bitCount_95d88_35 : decode cJ13_bitCount_95d88 35 = .ok (.lload_n 0, 1) := by decide +kernel
theorem dJ13_bitCount_95d88_36 : decode cJ13_bitCount_95d88 36 = .ok (.bipush 8, 2) := by decide +kernel
theorem dJ13_bitCount_95d88_38 : decode cJ13_bitCount_95d88 38 = .ok (.lushr, 1) := by decide +kernel
theorem dJ13_bitCount_95d88_39 : decode cJ13_bitCount_95d88 39 = .ok (.ladd, 1) := by decide +kernel
theorem dJ13_bitCount_95d88_40 : decode cJ13_bitCount_95d88 40 = .ok (.lstore_n 0, 1) := by decide +kernel
theorem dJ13_bitCount_95d88_41 : decode cJ13_bitCount_95d88 41 = .ok (.lload_n 0, 1) := by decide +kernel
theorem dJ13_bitCount_95d88_42 : decode cJ13_bitCount_95d88 42 = .ok (.lload_n 0, 1) := by decide +kernel
theorem dJ13_bitCount_95d88_43 : decode cJ13_bitCount_95d88 43 = .ok (.bipush 16, 2) := by decide +kernel
theorem dJ13_bitCount_95d88_45 : decode cJ13_bitCount_95d88 45 = .ok (.lushr, 1) := by decide +kernel
theorem dJ13_bitCount_95d88_46 : decode cJ13_bitCount_95d88 46 = .ok (.ladd, 1) := by decide +kernel
theorem dJ13_bitCount_95d88_47 : decode cJ13_bitCount_95d88 47 = .ok (.lstore_n 0, 1) := by decide +kernel
theorem dJ13_bitCount_95d88_48 : decode cJ13_bitCount_95d88 48 = .ok (.lload_n 0, 1) := by decide +kernel
theorem dJ13_bitCount_95d88_49 : decode cJ13_bitCount_95d88 49 = .ok (.lload_n 0, 1) := by decide +kernel
theorem dJ13_bitCount_95d88_50 : decode cJ13_bitCount_95d88 50 = .ok (.bipush 32, 2) := by decide +kernel
theorem dJ13_bitCount_95d88_52 : decode cJ13_bitCount_95d88 52 = .ok (.lushr, 1) := by decide +kernel
theorem dJ13_bitCount_95d88_53 : decode cJ13_bitCount_95d88 53 = .ok (.ladd, 1) := by decide +kernel
theorem dJ13_bitCount_95d88_54 : decode cJ13_bitCount_95d88 54 = .ok (.lstore_n 0, 1) := by decide +kernel
theorem dJ13_bitCount_95d88_55 : decode cJ13_bitCount_95d88 55 = .ok (.lload_n 0, 1) := by decide +kernel
theorem dJ13_bitCount_95d88_56 : decode cJ13_bitCount_95d88 56 = .ok (.l2i, 1) := by decide +kernel
theorem dJ13_bitCount_95d88_57 : decode cJ13_bitCount_95d88 57 = .ok (.bipush 127, 2) := by decide +kernel
theorem dJ13_bitCount_95d88_59 : decode cJ13_bitCount_95d88 59 = .ok (.iand, 1) := by decide +kernel
theorem dJ13_bitCount_95d88_60 : decode cJ13_bitCount_95d88 60 = .ok (.ireturn, 1) := by decide +kernel

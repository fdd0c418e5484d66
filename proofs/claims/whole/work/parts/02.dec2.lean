theorem dX3_wholeFrom_4 : decode cX3_wholeFrom 4 = .ok (.istore_n 2, 1) := by decide +kernel
theorem dX3_wholeFrom_5 : decode cX3_wholeFrom 5 = .ok (.iload_n 1, 1) := by decide +kernel
theorem dX3_wholeFrom_6 : decode cX3_wholeFrom 6 = .ok (.bipush 32, 2) := by decide +kernel
theorem dX3_wholeFrom_8 : decode cX3_wholeFrom 8 = .ok (.irem, 1) := by decide +kernel
theorem dX3_wholeFrom_9 : decode cX3_wholeFrom 9 = .ok (.istore_n 3, 1) := by decide +kernel
theorem dX3_wholeFrom_10 : decode cX3_wholeFrom 10 = .ok (.aload_n 0, 1) := by decide +kernel
theorem dX3_wholeFrom_11 : decode cX3_wholeFrom 11 = .ok (.iload_n 2, 1) := by decide +kernel
theorem dX3_wholeFrom_12 : decode cX3_wholeFrom 12 = .ok (.iconst 1, 1) := by decide +kernel
theorem dX3_wholeFrom_13 : decode cX3_wholeFrom 13 = .ok (.iadd, 1) := by decide +kernel
theorem dX3_wholeFrom_14 : decode cX3_wholeFrom 14 = .ok (.invokevirtual 28, 3) := by decide +kernel
theorem dX3_wholeFrom_17 : decode cX3_wholeFrom 17 = .ok (.bipush 32, 2) := by decide +kernel
theorem dX3_wholeFrom_19 : decode cX3_wholeFrom 19 = .ok (.lshl, 1) := by decide +kernel
theorem dX3_wholeFrom_20 : decode cX3_wholeFrom 20 = .ok (.aload_n 0, 1) := by decide +kernel
theorem dX3_wholeFrom_21 : decode cX3_wholeFrom 21 = .ok (.iload_n 2, 1) := by decide +kernel
theorem dX3_wholeFrom_22 : decode cX3_wholeFrom 22 = .ok (.invokevirtual 28, 3) := by decide +kernel
theorem dX3_wholeFrom_25 : decode cX3_wholeFrom 25 = .ok (.lor, 1) := by decide +kernel
theorem dX3_wholeFrom_26 : decode cX3_wholeFrom 26 = .ok (.iload_n 3, 1) := by decide +kernel
theorem dX3_wholeFrom_27 : decode cX3_wholeFrom 27 = .ok (.lushr, 1) := by decide +kernel
theorem dX3_wholeFrom_28 : decode cX3_wholeFrom 28 = .ok (.lstore 4, 2) := by decide +kernel
theorem dX3_wholeFrom_30 : decode cX3_wholeFrom 30 = .ok (.iload_n 3, 1) := by decide +kernel
theorem dX3_wholeFrom_31 : decode cX3_wholeFrom 31 = .ok (.ifCond .ne 8, 3) := by decide +kernel
theorem dX3_wholeFrom_34 : decode cX3_wholeFrom 34 = .ok (.lload 4, 2) := by decide +kernel
theorem dX3_wholeFrom_36 : decode cX3_wholeFrom 36 = .ok (.goto 18, 3) := by decide +kernel
theorem dX3_wholeFrom_39 : decode cX3_wholeFrom 39 = .ok (.lload 4, 2) := by decide +kernel
theorem dX3_wholeFrom_41 : decode cX3_wholeFrom 41 = .ok (.aload_n 0, 1) := by decide +kernel
theorem dX3_wholeFrom_42 : decode cX3_wholeFrom 42 = .ok (.iload_n 2, 1) := by decide +kernel
theorem dX3_wholeFrom_43 : decode cX3_wholeFrom 43 = .ok (.iconst 2, 1) := by decide +kernel
theorem dX3_wholeFrom_44 : decode cX3_wholeFrom 44 = .ok (.iadd, 1) := by decide +kernel
theorem dX3_wholeFrom_45 : decode cX3_wholeFrom 45 = .ok (.invokevirtual 28, 3) := by decide +kernel
theorem dX3_wholeFrom_48 : decode cX3_wholeFrom 48 = .ok (.bipush 64, 2) := by decide +kernel
theorem dX3_wholeFrom_50 : decode cX3_wholeFrom 50 = .ok (.iload_n 3, 1) := by decide +kernel
theorem dX3_wholeFrom_51 : decode cX3_wholeFrom 51 = .ok (.isub, 1) := by decide +kernel
theorem dX3_wholeFrom_52 : decode cX3_wholeFrom 52 = .ok (.lshl, 1) := by decide +kernel
theorem dX3_wholeFrom_53 : decode cX3_wholeFrom 53 = .ok (.lor, 1) := by decide +kernel
theorem dX3_wholeFrom_54 : decode cX3_wholeFrom 54 = .ok (.lreturn, 1) := by decide +kernel
theorem dX3_hasBitBelow_0 : decode cX3_hasBitBelow 0 = .ok (.iload_n 1, 1) := by decide +kernel
theorem dX3_hasBitBelow_1 : decode cX3_hasBitBelow 1 = .ok (.bipush 32, 2) := by decide +kernel
theorem dX3_hasBitBelow_3 : decode cX3_hasBitBelow 3 = .ok (.idiv, 1) := by decide +kernel
theorem dX3_hasBitBelow_4 : decode cX3_hasBitBelow 4 = .ok (.istore_n 2, 1) := by decide +kernel
theorem dX3_hasBitBelow_5 : decode cX3_hasBitBelow 5 = .ok (.iconst 0, 1) := by decide +kernel
theorem dX3_hasBitBelow_6 : decode cX3_hasBitBelow 6 = .ok (.istore_n 3, 1) := by decide +kernel
theorem dX3_hasBitBelow_7 : decode cX3_hasBitBelow 7 = .ok (.iload_n 3, 1) := by decide +kernel
theorem dX3_hasBitBelow_8 : decode cX3_hasBitBelow 8 = .ok (.iload_n 2, 1) := by decide +kernel
theorem dX3_hasBitBelow_9 : decode cX3_hasBitBelow 9 = .ok (.if_icmp .ge 29, 3) := by decide +kernel
theorem dX3_hasBitBelow_12 : decode cX3_hasBitBelow 12 = .ok (.iload_n 3, 1) := by decide +kernel
theorem dX3_hasBitBelow_13 : decode cX3_hasBitBelow 13 = .ok (.sipush 150, 3) := by decide +kernel
theorem dX3_hasBitBelow_16 : decode cX3_hasBitBelow 16 = .ok (.if_icmp .ge 22, 3) := by decide +kernel
theorem dX3_hasBitBelow_19 : decode cX3_hasBitBelow 19 = .ok (.aload_n 0, 1) := by decide +kernel
theorem dX3_hasBitBelow_20 : decode cX3_hasBitBelow 20 = .ok (.getfield 9, 3) := by decide +kernel
theorem dX3_hasBitBelow_23 : decode cX3_hasBitBelow 23 = .ok (.iload_n 3, 1) := by decide +kernel
theorem dX3_hasBitBelow_24 : decode cX3_hasBitBelow 24 = .ok (.laload, 1) := by decide +kernel
theorem dX3_hasBitBelow_25 : decode cX3_hasBitBelow 25 = .ok (.lconst 0, 1) := by decide +kernel
theorem dX3_hasBitBelow_26 : decode cX3_hasBitBelow 26 = .ok (.lcmp, 1) := by decide +kernel
theorem dX3_hasBitBelow_27 : decode cX3_hasBitBelow 27 = .ok (.ifCond .eq 5, 3) := by decide +kernel
theorem dX3_hasBitBelow_30 : decode cX3_hasBitBelow 30 = .ok (.iconst 1, 1) := by decide +kernel
theorem dX3_hasBitBelow_31 : decode cX3_hasBitBelow 31 = .ok (.ireturn, 1) := by decide +kernel
theorem dX3_hasBitBelow_32 : decode cX3_hasBitBelow 32 = .ok (.iinc 3 1, 3) := by decide +kernel
theorem dX3_hasBitBelow_35 : decode cX3_hasBitBelow 35 = .ok (.goto (-28), 3) := by decide +kernel
theorem dX3_hasBitBelow_38 : decode cX3_hasBitBelow 38 = .ok (.aload_n 0, 1) := by decide +kernel
theorem dX3_hasBitBelow_39 : decode cX3_hasBitBelow 39 = .ok (.iload_n 2, 1) := by decide +kernel
theorem dX3_hasBitBelow_40 : decode cX3_hasBitBelow 40 = .ok (.invokevirtual 28, 3) := by decide +kernel
theorem dX3_hasBitBelow_43 : decode cX3_hasBitBelow 43 = .ok (.lconst 1, 1) := by decide +kernel
theorem dX3_hasBitBelow_44 : decode cX3_hasBitBelow 44 = .ok (.iload_n 1, 1) := by decide +kernel
theorem dX3_hasBitBelow_45 : decode cX3_hasBitBelow 45 = .ok (.bipush 32, 2) := by decide +kernel
theorem dX3_hasBitBelow_47 : decode cX3_hasBitBelow 47 = .ok (.irem, 1) := by decide +kernel
theorem dX3_hasBitBelow_48 : decode cX3_hasBitBelow 48 = .ok (.lshl, 1) := by decide +kernel
theorem dX3_hasBitBelow_49 : decode cX3_hasBitBelow 49 = .ok (.lconst 1, 1) := by decide +kernel
theorem dX3_hasBitBelow_50 : decode cX3_hasBitBelow 50 = .ok (.lsub, 1) := by decide +kernel
theorem dX3_hasBitBelow_51 : decode cX3_hasBitBelow 51 = .ok (.land, 1) := by decide +kernel
theorem dX3_hasBitBelow_52 : decode cX3_hasBitBelow 52 = .ok (.lconst 0, 1) := by decide +kernel
theorem dX3_hasBitBelow_53 : decode cX3_hasBitBelow 53 = .ok (.lcmp, 1) := by decide +kernel
theorem dX3_hasBitBelow_54 : decode cX3_hasBitBelow 54 = .ok (.ifCond .eq 7, 3) := by decide +kernel
theorem dX3_hasBitBelow_57 : decode cX3_hasBitBelow 57 = .ok (.iconst 1, 1) := by decide +kernel
theorem dX3_hasBitBelow_58 : decode cX3_hasBitBelow 58 = .ok (.goto 4, 3) := by decide +kernel
theorem dX3_hasBitBelow_61 : decode cX3_hasBitBelow 61 = .ok (.iconst 0, 1) := by decide +kernel
theorem dX3_hasBitBelow_62 : decode cX3_hasBitBelow 62 = .ok (.ireturn, 1) := by decide +kernel
theorem dX4_init_0 : decode cX4_init 0 = .ok (.aload_n 0, 1) := by decide +kernel
theorem dX4_init_1 : decode cX4_init 1 = .ok (.invokespecial 1, 3) := by decide +kernel
theorem dX4_init_4 : decode cX4_init 4 = .ok (.aload_n 0, 1) := by decide +kernel
theorem dX4_init_5 : decode cX4_init 5 = .ok (.bipush 12, 2) := by decide +kernel
theorem dX4_init_7 : decode cX4_init 7 = .ok (.anewarray 9, 3) := by decide +kernel
theorem dX4_init_10 : decode cX4_init 10 = .ok (.putfield 11, 3) := by decide +kernel
theorem dX4_init_13 : decode cX4_init 13 = .ok (.aload_n 0, 1) := by decide +kernel
theorem dX4_init_14 : decode cX4_init 14 = .ok (.bipush 6, 2) := by decide +kernel
theorem dX4_init_16 : decode cX4_init 16 = .ok (.anewarray 15, 3) := by decide +kernel
theorem dX4_init_19 : decode cX4_init 19 = .ok (.putfield 17, 3) := by decide +kernel
theorem dX4_init_22 : decode cX4_init 22 = .ok (.aload_n 0, 1) := by decide +kernel
theorem dX4_init_23 : decode cX4_init 23 = .ok (.new 21, 3) := by decide +kernel
theorem dX4_init_26 : decode cX4_init 26 = .ok (.dup, 1) := by decide +kernel
theorem dX4_init_27 : decode cX4_init 27 = .ok (.invokespecial 23, 3) := by decide +kernel
theorem dX4_init_30 : decode cX4_init 30 = .ok (.putfield 24, 3) := by decide +kernel
theorem dX4_init_33 : decode cX4_init 33 = .ok (.aload_n 0, 1) := by decide +kernel
theorem dX4_init_34 : decode cX4_init 34 = .ok (.new 28, 3) := by decide +kernel
theorem dX4_init_37 : decode cX4_init 37 = .ok (.dup, 1) := by decide +kernel
theorem dX4_init_38 : decode cX4_init 38 = .ok (.invokespecial 30, 3) := by decide +kernel
theorem dX4_init_41 : decode cX4_init 41 = .ok (.putfield 31, 3) := by decide +kernel
theorem dX4_init_44 : decode cX4_init 44 = .ok (.aload_n 0, 1) := by decide +kernel
theorem dX4_init_45 : decode cX4_init 45 = .ok (.new 9, 3) := by decide +kernel
theorem dX4_init_48 : decode cX4_init 48 = .ok (.dup, 1) := by decide +kernel
theorem dX4_init_49 : decode cX4_init 49 = .ok (.invokespecial 35, 3) := by decide +kernel
theorem dX4_init_52 : decode cX4_init 52 = .ok (.putfield 36, 3) := by decide +kernel
theorem dX4_init_55 : decode cX4_init 55 = .ok (.aload_n 0, 1) := by decide +kernel
theorem dX4_init_56 : decode cX4_init 56 = .ok (.new 9, 3) := by decide +kernel
theorem dX4_init_59 : decode cX4_init 59 = .ok (.dup, 1) := by decide +kernel
theorem dX4_init_60 : decode cX4_init 60 = .ok (.invokespecial 35, 3) := by decide +kernel
theorem dX4_init_63 : decode cX4_init 63 = .ok (.putfield 40, 3) := by decide +kernel
theorem dX4_init_66 : decode cX4_init 66 = .ok (.aload_n 0, 1) := by decide +kernel
theorem dX4_init_67 : decode cX4_init 67 = .ok (.iconst 0, 1) := by decide +kernel
theorem dX4_init_68 : decode cX4_init 68 = .ok (.putfield 43, 3) := by decide +kernel
theorem dX4_init_71 : decode cX4_init 71 = .ok (.iconst 0, 1) := by decide +kernel
theorem dX4_init_72 : decode cX4_init 72 = .ok (.istore_n 1, 1) := by decide +kernel
theorem dX4_init_73 : decode cX4_init 73 = .ok (.iload_n 1, 1) := by decide +kernel
theorem dX4_init_74 : decode cX4_init 74 = .ok (.bipush 12, 2) := by decide +kernel
theorem dX4_init_76 : decode cX4_init 76 = .ok (.if_icmp .ge 22, 3) := by decide +kernel
theorem dX4_init_79 : decode cX4_init 79 = .ok (.aload_n 0, 1) := by decide +kernel
theorem dX4_init_80 : decode cX4_init 80 = .ok (.getfield 11, 3) := by decide +kernel
theorem dX4_init_83 : decode cX4_init 83 = .ok (.iload_n 1, 1) := by decide +kernel
theorem dX4_init_84 : decode cX4_init 84 = .ok (.new 9, 3) := by decide +kernel
theorem dX4_init_87 : decode cX4_init 87 = .ok (.dup, 1) := by decide +kernel
theorem dX4_init_88 : decode cX4_init 88 = .ok (.invokespecial 35, 3) := by decide +kernel
theorem dX4_init_91 : decode cX4_init 91 = .ok (.aastore, 1) := by decide +kernel
theorem dX4_init_92 : decode cX4_init 92 = .ok (.iinc 1 1, 3) := by decide +kernel
theorem dX4_init_95 : decode cX4_init 95 = .ok (.goto (-22), 3) := by decide +kernel
theorem dX4_init_98 : decode cX4_init 98 = .ok (.iconst 0, 1) := by decide +kernel
theorem dX4_init_99 : decode cX4_init 99 = .ok (.istore_n 1, 1) := by decide +kernel
theorem dX4_init_100 : decode cX4_init 100 = .ok (.iload_n 1, 1) := by decide +kernel
theorem dX4_init_101 : decode cX4_init 101 = .ok (.bipush 6, 2) := by decide +kernel
theorem dX4_init_103 : decode cX4_init 103 = .ok (.if_icmp .ge 22, 3) := by decide +kernel
theorem dX4_init_106 : decode cX4_init 106 = .ok (.aload_n 0, 1) := by decide +kernel
theorem dX4_init_107 : decode cX4_init 107 = .ok (.getfield 17, 3) := by decide +kernel
theorem dX4_init_110 : decode cX4_init 110 = .ok (.iload_n 1, 1) := by decide +kernel
theorem dX4_init_111 : decode cX4_init 111 = .ok (.new 15, 3) := by decide +kernel
theorem dX4_init_114 : decode cX4_init 114 = .ok (.dup, 1) := by decide +kernel
theorem dX4_init_115 : decode cX4_init 115 = .ok (.invokespecial 47, 3) := by decide +kernel
theorem dX4_init_118 : decode cX4_init 118 = .ok (.aastore, 1) := by decide +kernel
theorem dX4_init_119 : decode cX4_init 119 = .ok (.iinc 1 1, 3) := by decide +kernel
theorem dX4_init_122 : decode cX4_init 122 = .ok (.goto (-22), 3) := by decide +kernel
theorem dX4_init_125 : decode cX4_init 125 = .ok (.aload_n 0, 1) := by decide +kernel
theorem dX4_init_126 : decode cX4_init 126 = .ok (.getfield 40, 3) := by decide +kernel
theorem dX4_init_129 : decode cX4_init 129 = .ok (.iconst 5, 1) := by decide +kernel
theorem dX4_init_130 : decode cX4_init 130 = .ok (.iconst 1, 1) := by decide +kernel
theorem dX4_init_131 : decode cX4_init 131 = .ok (.invokevirtual 48, 3) := by decide +kernel
theorem dX4_init_134 : decode cX4_init 134 = .ok (.aload_n 0, 1) := by decide +kernel
theorem dX4_init_135 : decode cX4_init 135 = .ok (.getfield 36, 3) := by decide +kernel
theorem dX4_init_138 : decode cX4_init 138 = .ok (.iconst 3, 1) := by decide +kernel
theorem dX4_init_139 : decode cX4_init 139 = .ok (.bipush 40, 2) := by decide +kernel
theorem dX4_init_141 : decode cX4_init 141 = .ok (.invokevirtual 48, 3) := by decide +kernel
theorem dX4_init_144 : decode cX4_init 144 = .ok (.iconst 0, 1) := by decide +kernel
theorem dX4_init_145 : decode cX4_init 145 = .ok (.istore_n 1, 1) := by decide +kernel
theorem dX4_init_146 : decode cX4_init 146 = .ok (.iload_n 1, 1) := by decide +kernel
theorem dX4_init_147 : decode cX4_init 147 = .ok (.bipush 40, 2) := by decide +kernel
theorem dX4_init_149 : decode cX4_init 149 = .ok (.if_icmp .ge 19, 3) := by decide +kernel
theorem dX4_init_152 : decode cX4_init 152 = .ok (.aload_n 0, 1) := by decide +kernel
theorem dX4_init_153 : decode cX4_init 153 = .ok (.getfield 36, 3) := by decide +kernel
theorem dX4_init_156 : decode cX4_init 156 = .ok (.iload_n 1, 1) := by decide +kernel
theorem dX4_init_157 : decode cX4_init 157 = .ok (.lconst 1, 1) := by decide +kernel
theorem dX4_init_158 : decode cX4_init 158 = .ok (.iconst 0, 1) := by decide +kernel
theorem dX4_init_159 : decode cX4_init 159 = .ok (.invokevirtual 52, 3) := by decide +kernel
theorem dX4_init_162 : decode cX4_init 162 = .ok (.iinc 1 1, 3) := by decide +kernel
theorem dX4_init_165 : decode cX4_init 165 = .ok (.goto (-19), 3) := by decide +kernel
theorem dX4_init_168 : decode cX4_init 168 = .ok (.return_, 1) := by decide +kernel
theorem dX4_row_0 : decode cX4_row 0 = .ok (.iload_n 1, 1) := by decide +kernel
theorem dX4_row_1 : decode cX4_row 1 = .ok (.invokestatic 56, 3) := by decide +kernel
theorem dX4_row_4 : decode cX4_row 4 = .ok (.ifCond .eq 18, 3) := by decide +kernel
theorem dX4_row_7 : decode cX4_row 7 = .ok (.iload_n 2, 1) := by decide +kernel
theorem dX4_row_8 : decode cX4_row 8 = .ok (.ifCond .lt 14, 3) := by decide +kernel
theorem dX4_row_11 : decode cX4_row 11 = .ok (.iload_n 2, 1) := by decide +kernel
theorem dX4_row_12 : decode cX4_row 12 = .ok (.iconst 5, 1) := by decide +kernel
theorem dX4_row_13 : decode cX4_row 13 = .ok (.if_icmp .gt 9, 3) := by decide +kernel
theorem dX4_row_16 : decode cX4_row 16 = .ok (.iload_n 3, 1) := by decide +kernel
theorem dX4_row_17 : decode cX4_row 17 = .ok (.bipush 40, 2) := by decide +kernel
theorem dX4_row_19 : decode cX4_row 19 = .ok (.if_icmp .le 6, 3) := by decide +kernel
theorem dX4_row_22 : decode cX4_row 22 = .ok (.bipush (-3), 2) := by decide +kernel
theorem dX4_row_24 : decode cX4_row 24 = .ok (.ireturn, 1) := by decide +kernel
theorem dX4_row_25 : decode cX4_row 25 = .ok (.iload_n 3, 1) := by decide +kernel
theorem dX4_row_26 : decode cX4_row 26 = .ok (.ifCond .ge 6, 3) := by decide +kernel
theorem dX4_row_29 : decode cX4_row 29 = .ok (.bipush (-14), 2) := by decide +kernel
theorem dX4_row_31 : decode cX4_row 31 = .ok (.ireturn, 1) := by decide +kernel
theorem dX4_row_32 : decode cX4_row 32 = .ok (.aload_n 0, 1) := by decide +kernel
theorem dX4_row_33 : decode cX4_row 33 = .ok (.getfield 11, 3) := by decide +kernel
theorem dX4_row_36 : decode cX4_row 36 = .ok (.iload_n 1, 1) := by decide +kernel
theorem dX4_row_37 : decode cX4_row 37 = .ok (.aaload, 1) := by decide +kernel
theorem dX4_row_38 : decode cX4_row 38 = .ok (.iload_n 2, 1) := by decide +kernel
theorem dX4_row_39 : decode cX4_row 39 = .ok (.iload_n 3, 1) := by decide +kernel
theorem dX4_row_40 : decode cX4_row 40 = .ok (.invokevirtual 48, 3) := by decide +kernel
theorem dX4_row_43 : decode cX4_row 43 = .ok (.iload_n 3, 1) := by decide +kernel
theorem dX4_row_44 : decode cX4_row 44 = .ok (.ireturn, 1) := by decide +kernel
theorem dX4_lose_0 : decode cX4_lose 0 = .ok (.iload_n 1, 1) := by decide +kernel
theorem dX4_lose_1 : decode cX4_lose 1 = .ok (.invokestatic 56, 3) := by decide +kernel
theorem dX4_lose_4 : decode cX4_lose 4 = .ok (.ifCond .ne 6, 3) := by decide +kernel
theorem dX4_lose_7 : decode cX4_lose 7 = .ok (.bipush (-3), 2) := by decide +kernel
theorem dX4_lose_9 : decode cX4_lose 9 = .ok (.ireturn, 1) := by decide +kernel
theorem dX4_lose_10 : decode cX4_lose 10 = .ok (.aload_n 0, 1) := by decide +kernel
theorem dX4_lose_11 : decode cX4_lose 11 = .ok (.getfield 11, 3) := by decide +kernel
theorem dX4_lose_14 : decode cX4_lose 14 = .ok (.iload_n 1, 1) := by decide +kernel
theorem dX4_lose_15 : decode cX4_lose 15 = .ok (.aaload, 1) := by decide +kernel
theorem dX4_lose_16 : decode cX4_lose 16 = .ok (.astore_n 2, 1) := by decide +kernel
theorem dX4_lose_17 : decode cX4_lose 17 = .ok (.aload_n 2, 1) := by decide +kernel
theorem dX4_lose_18 : decode cX4_lose 18 = .ok (.getfield 60, 3) := by decide +kernel
theorem dX4_lose_21 : decode cX4_lose 21 = .ok (.ifCond .ne 6, 3) := by decide +kernel
theorem dX4_lose_24 : decode cX4_lose 24 = .ok (.bipush (-11), 2) := by decide +kernel
theorem dX4_lose_26 : decode cX4_lose 26 = .ok (.ireturn, 1) := by decide +kernel
theorem dX4_lose_27 : decode cX4_lose 27 = .ok (.aload_n 2, 1) := by decide +kernel
theorem dX4_lose_28 : decode cX4_lose 28 = .ok (.iconst 0, 1) := by decide +kernel
theorem dX4_lose_29 : decode cX4_lose 29 = .ok (.putfield 60, 3) := by decide +kernel
theorem dX4_lose_32 : decode cX4_lose 32 = .ok (.aload_n 2, 1) := by decide +kernel
theorem dX4_lose_33 : decode cX4_lose 33 = .ok (.getfield 64, 3) := by decide +kernel
theorem dX4_lose_36 : decode cX4_lose 36 = .ok (.ireturn, 1) := by decide +kernel
theorem dX4_put_0 : decode cX4_put 0 = .ok (.iload_n 1, 1) := by decide +kernel
theorem dX4_put_1 : decode cX4_put 1 = .ok (.invokestatic 56, 3) := by decide +kernel
theorem dX4_put_4 : decode cX4_put 4 = .ok (.ifCond .eq 35, 3) := by decide +kernel
theorem dX4_put_7 : decode cX4_put 7 = .ok (.lload_n 3, 1) := by decide +kernel
theorem dX4_put_8 : decode cX4_put 8 = .ok (.ldc2_w 67, 3) := by decide +kernel
theorem dX4_put_11 : decode cX4_put 11 = .ok (.lcmp, 1) := by decide +kernel
theorem dX4_put_12 : decode cX4_put 12 = .ok (.ifCond .le 27, 3) := by decide +kernel
theorem dX4_put_15 : decode cX4_put 15 = .ok (.lload_n 3, 1) := by decide +kernel
theorem dX4_put_16 : decode cX4_put 16 = .ok (.ldc2_w 69, 3) := by decide +kernel
theorem dX4_put_19 : decode cX4_put 19 = .ok (.lcmp, 1) := by decide +kernel
theorem dX4_put_20 : decode cX4_put 20 = .ok (.ifCond .ge 19, 3) := by decide +kernel
theorem dX4_put_23 : decode cX4_put 23 = .ok (.iload 5, 2) := by decide +kernel
theorem dX4_put_25 : decode cX4_put 25 = .ok (.sipush (-1074), 3) := by decide +kernel
theorem dX4_put_28 : decode cX4_put 28 = .ok (.if_icmp .lt 11, 3) := by decide +kernel
theorem dX4_put_31 : decode cX4_put 31 = .ok (.iload 5, 2) := by decide +kernel
theorem dX4_put_33 : decode cX4_put 33 = .ok (.sipush 971, 3) := by decide +kernel
theorem dX4_put_36 : decode cX4_put 36 = .ok (.if_icmp .le 6, 3) := by decide +kernel
theorem dX4_put_39 : decode cX4_put 39 = .ok (.bipush (-3), 2) := by decide +kernel
theorem dX4_put_41 : decode cX4_put 41 = .ok (.ireturn, 1) := by decide +kernel
theorem dX4_put_42 : decode cX4_put 42 = .ok (.aload_n 0, 1) := by decide +kernel
theorem dX4_put_43 : decode cX4_put 43 = .ok (.getfield 11, 3) := by decide +kernel
theorem dX4_put_46 : decode cX4_put 46 = .ok (.iload_n 1, 1) := by decide +kernel
theorem dX4_put_47 : decode cX4_put 47 = .ok (.aaload, 1) := by decide +kernel
theorem dX4_put_48 : decode cX4_put 48 = .ok (.astore 6, 2) := by decide +kernel
theorem dX4_put_50 : decode cX4_put 50 = .ok (.aload 6, 2) := by decide +kernel
theorem dX4_put_52 : decode cX4_put 52 = .ok (.getfield 60, 3) := by decide +kernel
theorem dX4_put_55 : decode cX4_put 55 = .ok (.ifCond .ne 6, 3) := by decide +kernel
theorem dX4_put_58 : decode cX4_put 58 = .ok (.bipush (-11), 2) := by decide +kernel
theorem dX4_put_60 : decode cX4_put 60 = .ok (.ireturn, 1) := by decide +kernel
theorem dX4_put_61 : decode cX4_put 61 = .ok (.aload 6, 2) := by decide +kernel
theorem dX4_put_63 : decode cX4_put 63 = .ok (.iload_n 2, 1) := by decide +kernel
theorem dX4_put_64 : decode cX4_put 64 = .ok (.iconst 1, 1) := by decide +kernel
theorem dX4_put_65 : decode cX4_put 65 = .ok (.invokevirtual 71, 3) := by decide +kernel
theorem dX4_put_68 : decode cX4_put 68 = .ok (.ifCond .ne 6, 3) := by decide +kernel
theorem dX4_put_71 : decode cX4_put 71 = .ok (.bipush (-13), 2) := by decide +kernel
theorem dX4_put_73 : decode cX4_put 73 = .ok (.ireturn, 1) := by decide +kernel
theorem dX4_put_74 : decode cX4_put 74 = .ok (.aload 6, 2) := by decide +kernel
theorem dX4_put_76 : decode cX4_put 76 = .ok (.iload_n 2, 1) := by decide +kernel
theorem dX4_put_77 : decode cX4_put 77 = .ok (.lload_n 3, 1) := by decide +kernel
theorem dX4_put_78 : decode cX4_put 78 = .ok (.iload 5, 2) := by decide +kernel
theorem dX4_put_80 : decode cX4_put 80 = .ok (.invokevirtual 52, 3) := by decide +kernel
theorem dX4_put_83 : decode cX4_put 83 = .ok (.iconst 0, 1) := by decide +kernel
theorem dX4_put_84 : decode cX4_put 84 = .ok (.ireturn, 1) := by decide +kernel
theorem dX4_mark_0 : decode cX4_mark 0 = .ok (.iload_n 1, 1) := by decide +kernel
theorem dX4_mark_1 : decode cX4_mark 1 = .ok (.invokestatic 56, 3) := by decide +kernel
theorem dX4_mark_4 : decode cX4_mark 4 = .ok (.ifCond .eq 12, 3) := by decide +kernel
theorem dX4_mark_7 : decode cX4_mark 7 = .ok (.iload_n 3, 1) := by decide +kernel
theorem dX4_mark_8 : decode cX4_mark 8 = .ok (.ifCond .lt 8, 3) := by decide +kernel
theorem dX4_mark_11 : decode cX4_mark 11 = .ok (.iload_n 3, 1) := by decide +kernel
theorem dX4_mark_12 : decode cX4_mark 12 = .ok (.iconst 5, 1) := by decide +kernel
theorem dX4_mark_13 : decode cX4_mark 13 = .ok (.if_icmp .le 6, 3) := by decide +kernel
theorem dX4_mark_16 : decode cX4_mark 16 = .ok (.bipush (-3), 2) := by decide +kernel
theorem dX4_mark_18 : decode cX4_mark 18 = .ok (.ireturn, 1) := by decide +kernel
theorem dX4_mark_19 : decode cX4_mark 19 = .ok (.aload_n 0, 1) := by decide +kernel
theorem dX4_mark_20 : decode cX4_mark 20 = .ok (.getfield 11, 3) := by decide +kernel
theorem dX4_mark_23 : decode cX4_mark 23 = .ok (.iload_n 1, 1) := by decide +kernel
theorem dX4_mark_24 : decode cX4_mark 24 = .ok (.aaload, 1) := by decide +kernel
theorem dX4_mark_25 : decode cX4_mark 25 = .ok (.astore 4, 2) := by decide +kernel
theorem dX4_mark_27 : decode cX4_mark 27 = .ok (.aload 4, 2) := by decide +kernel
theorem dX4_mark_29 : decode cX4_mark 29 = .ok (.getfield 60, 3) := by decide +kernel
theorem dX4_mark_32 : decode cX4_mark 32 = .ok (.ifCond .ne 6, 3) := by decide +kernel
theorem dX4_mark_35 : decode cX4_mark 35 = .ok (.bipush (-11), 2) := by decide +kernel
theorem dX4_mark_37 : decode cX4_mark 37 = .ok (.ireturn, 1) := by decide +kernel
theorem dX4_mark_38 : decode cX4_mark 38 = .ok (.aload 4, 2) := by decide +kernel
theorem dX4_mark_40 : decode cX4_mark 40 = .ok (.invokevirtual 75, 3) := by decide +kernel
theorem dX4_mark_43 : decode cX4_mark 43 = .ok (.ifCond .ne 6, 3) := by decide +kernel
theorem dX4_mark_46 : decode cX4_mark 46 = .ok (.bipush (-12), 2) := by decide +kernel
theorem dX4_mark_48 : decode cX4_mark 48 = .ok (.ireturn, 1) := by decide +kernel
theorem dX4_mark_49 : decode cX4_mark 49 = .ok (.aload 4, 2) := by decide +kernel
theorem dX4_mark_51 : decode cX4_mark 51 = .ok (.iload_n 2, 1) := by decide +kernel
theorem dX4_mark_52 : decode cX4_mark 52 = .ok (.iconst 1, 1) := by decide +kernel
theorem dX4_mark_53 : decode cX4_mark 53 = .ok (.invokevirtual 71, 3) := by decide +kernel
theorem dX4_mark_56 : decode cX4_mark 56 = .ok (.ifCond .ne 6, 3) := by decide +kernel
theorem dX4_mark_59 : decode cX4_mark 59 = .ok (.bipush (-13), 2) := by decide +kernel
theorem dX4_mark_61 : decode cX4_mark 61 = .ok (.ireturn, 1) := by decide +kernel
theorem dX4_mark_62 : decode cX4_mark 62 = .ok (.aload 4, 2) := by decide +kernel
theorem dX4_mark_64 : decode cX4_mark 64 = .ok (.iload_n 2, 1) := by decide +kernel
theorem dX4_mark_65 : decode cX4_mark 65 = .ok (.iload_n 3, 1) := by decide +kernel
theorem dX4_mark_66 : decode cX4_mark 66 = .ok (.invokevirtual 79, 3) := by decide +kernel
theorem dX4_mark_69 : decode cX4_mark 69 = .ok (.iconst 0, 1) := by decide +kernel
theorem dX4_mark_70 : decode cX4_mark 70 = .ok (.ireturn, 1) := by decide +kernel
theorem dX4_copy_0 : decode cX4_copy 0 = .ok (.iload_n 1, 1) := by decide +kernel
theorem dX4_copy_1 : decode cX4_copy 1 = .ok (.invokestatic 56, 3) := by decide +kernel
theorem dX4_copy_4 : decode cX4_copy 4 = .ok (.ifCond .eq 10, 3) := by decide +kernel
theorem dX4_copy_7 : decode cX4_copy 7 = .ok (.iload_n 3, 1) := by decide +kernel
theorem dX4_copy_8 : decode cX4_copy 8 = .ok (.invokestatic 56, 3) := by decide +kernel
theorem dX4_copy_11 : decode cX4_copy 11 = .ok (.ifCond .ne 6, 3) := by decide +kernel
theorem dX4_copy_14 : decode cX4_copy 14 = .ok (.bipush (-3), 2) := by decide +kernel
theorem dX4_copy_16 : decode cX4_copy 16 = .ok (.ireturn, 1) := by decide +kernel
theorem dX4_copy_17 : decode cX4_copy 17 = .ok (.aload_n 0, 1) := by decide +kernel
theorem dX4_copy_18 : decode cX4_copy 18 = .ok (.getfield 11, 3) := by decide +kernel
theorem dX4_copy_21 : decode cX4_copy 21 = .ok (.iload_n 1, 1) := by decide +kernel
theorem dX4_copy_22 : decode cX4_copy 22 = .ok (.aaload, 1) := by decide +kernel
theorem dX4_copy_23 : decode cX4_copy 23 = .ok (.astore 6, 2) := by decide +kernel
theorem dX4_copy_25 : decode cX4_copy 25 = .ok (.aload_n 0, 1) := by decide +kernel
theorem dX4_copy_26 : decode cX4_copy 26 = .ok (.getfield 11, 3) := by decide +kernel
theorem dX4_copy_29 : decode cX4_copy 29 = .ok (.iload_n 3, 1) := by decide +kernel
theorem dX4_copy_30 : decode cX4_copy 30 = .ok (.aaload, 1) := by decide +kernel
theorem dX4_copy_31 : decode cX4_copy 31 = .ok (.astore 7, 2) := by decide +kernel
theorem dX4_copy_33 : decode cX4_copy 33 = .ok (.aload 6, 2) := by decide +kernel
theorem dX4_copy_35 : decode cX4_copy 35 = .ok (.getfield 60, 3) := by decide +kernel
theorem dX4_copy_38 : decode cX4_copy 38 = .ok (.ifCond .eq 11, 3) := by decide +kernel
theorem dX4_copy_41 : decode cX4_copy 41 = .ok (.aload 7, 2) := by decide +kernel
theorem dX4_copy_43 : decode cX4_copy 43 = .ok (.getfield 60, 3) := by decide +kernel
theorem dX4_copy_46 : decode cX4_copy 46 = .ok (.ifCond .ne 6, 3) := by decide +kernel
theorem dX4_copy_49 : decode cX4_copy 49 = .ok (.bipush (-11), 2) := by decide +kernel
theorem dX4_copy_51 : decode cX4_copy 51 = .ok (.ireturn, 1) := by decide +kernel
theorem dX4_copy_52 : decode cX4_copy 52 = .ok (.aload 6, 2) := by decide +kernel
theorem dX4_copy_54 : decode cX4_copy 54 = .ok (.getfield 82, 3) := by decide +kernel
theorem dX4_copy_57 : decode cX4_copy 57 = .ok (.aload 7, 2) := by decide +kernel
theorem dX4_copy_59 : decode cX4_copy 59 = .ok (.getfield 82, 3) := by decide +kernel
theorem dX4_copy_62 : decode cX4_copy 62 = .ok (.if_icmp .eq 6, 3) := by decide +kernel
theorem dX4_copy_65 : decode cX4_copy 65 = .ok (.bipush (-12), 2) := by decide +kernel
theorem dX4_copy_67 : decode cX4_copy 67 = .ok (.ireturn, 1) := by decide +kernel
theorem dX4_copy_68 : decode cX4_copy 68 = .ok (.iload 5, 2) := by decide +kernel
theorem dX4_copy_70 : decode cX4_copy 70 = .ok (.ifCond .lt 26, 3) := by decide +kernel
theorem dX4_copy_73 : decode cX4_copy 73 = .ok (.aload 6, 2) := by decide +kernel
theorem dX4_copy_75 : decode cX4_copy 75 = .ok (.iload_n 2, 1) := by decide +kernel
theorem dX4_copy_76 : decode cX4_copy 76 = .ok (.iload 5, 2) := by decide +kernel
theorem dX4_copy_78 : decode cX4_copy 78 = .ok (.invokevirtual 71, 3) := by decide +kernel
theorem dX4_copy_81 : decode cX4_copy 81 = .ok (.ifCond .eq 15, 3) := by decide +kernel
theorem dX4_copy_84 : decode cX4_copy 84 = .ok (.aload 7, 2) := by decide +kernel
theorem dX4_copy_86 : decode cX4_copy 86 = .ok (.iload 4, 2) := by decide +kernel
theorem dX4_copy_88 : decode cX4_copy 88 = .ok (.iload 5, 2) := by decide +kernel
theorem dX4_copy_90 : decode cX4_copy 90 = .ok (.invokevirtual 71, 3) := by decide +kernel
theorem dX4_copy_93 : decode cX4_copy 93 = .ok (.ifCond .ne 6, 3) := by decide +kernel
theorem dX4_copy_96 : decode cX4_copy 96 = .ok (.bipush (-13), 2) := by decide +kernel
theorem dX4_copy_98 : decode cX4_copy 98 = .ok (.ireturn, 1) := by decide +kernel
theorem dX4_copy_99 : decode cX4_copy 99 = .ok (.aload 7, 2) := by decide +kernel
theorem dX4_copy_101 : decode cX4_copy 101 = .ok (.aload 6, 2) := by decide +kernel
theorem dX4_copy_103 : decode cX4_copy 103 = .ok (.iload_n 2, 1) := by decide +kernel
theorem dX4_copy_104 : decode cX4_copy 104 = .ok (.iload 4, 2) := by decide +kernel
theorem dX4_copy_106 : decode cX4_copy 106 = .ok (.iload 5, 2) := by decide +kernel
theorem dX4_copy_108 : decode cX4_copy 108 = .ok (.invokevirtual 85, 3) := by decide +kernel
theorem dX4_copy_111 : decode cX4_copy 111 = .ok (.iload 5, 2) := by decide +kernel
theorem dX4_copy_113 : decode cX4_copy 113 = .ok (.ireturn, 1) := by decide +kernel
theorem dX4_look_0 : decode cX4_look 0 = .ok (.iload_n 1, 1) := by decide +kernel
theorem dX4_look_1 : decode cX4_look 1 = .ok (.invokestatic 56, 3) := by decide +kernel
theorem dX4_look_4 : decode cX4_look 4 = .ok (.ifCond .eq 12, 3) := by decide +kernel
theorem dX4_look_7 : decode cX4_look 7 = .ok (.iload_n 2, 1) := by decide +kernel
theorem dX4_look_8 : decode cX4_look 8 = .ok (.ifCond .lt 8, 3) := by decide +kernel
theorem dX4_look_11 : decode cX4_look 11 = .ok (.iload_n 2, 1) := by decide +kernel
theorem dX4_look_12 : decode cX4_look 12 = .ok (.iconst 3, 1) := by decide +kernel
theorem dX4_look_13 : decode cX4_look 13 = .ok (.if_icmp .le 7, 3) := by decide +kernel
theorem dX4_look_16 : decode cX4_look 16 = .ok (.ldc2_w 89, 3) := by decide +kernel
theorem dX4_look_19 : decode cX4_look 19 = .ok (.lreturn, 1) := by decide +kernel
theorem dX4_look_20 : decode cX4_look 20 = .ok (.aload_n 0, 1) := by decide +kernel
theorem dX4_look_21 : decode cX4_look 21 = .ok (.getfield 11, 3) := by decide +kernel
theorem dX4_look_24 : decode cX4_look 24 = .ok (.iload_n 1, 1) := by decide +kernel
theorem dX4_look_25 : decode cX4_look 25 = .ok (.aaload, 1) := by decide +kernel
theorem dX4_look_26 : decode cX4_look 26 = .ok (.astore 4, 2) := by decide +kernel
theorem dX4_look_28 : decode cX4_look 28 = .ok (.aload 4, 2) := by decide +kernel
theorem dX4_look_30 : decode cX4_look 30 = .ok (.getfield 60, 3) := by decide +kernel
theorem dX4_look_33 : decode cX4_look 33 = .ok (.ifCond .ne 7, 3) := by decide +kernel
theorem dX4_look_36 : decode cX4_look 36 = .ok (.ldc2_w 91, 3) := by decide +kernel
theorem dX4_look_39 : decode cX4_look 39 = .ok (.lreturn, 1) := by decide +kernel
theorem dX4_look_40 : decode cX4_look 40 = .ok (.aload 4, 2) := by decide +kernel
theorem dX4_look_42 : decode cX4_look 42 = .ok (.getfield 82, 3) := by decide +kernel
theorem dX4_look_45 : decode cX4_look 45 = .ok (.iload_n 2, 1) := by decide +kernel
theorem dX4_look_46 : decode cX4_look 46 = .ok (.if_icmp .eq 7, 3) := by decide +kernel
theorem dX4_look_49 : decode cX4_look 49 = .ok (.ldc2_w 93, 3) := by decide +kernel
theorem dX4_look_52 : decode cX4_look 52 = .ok (.lreturn, 1) := by decide +kernel
theorem dX4_look_53 : decode cX4_look 53 = .ok (.aload 4, 2) := by decide +kernel
theorem dX4_look_55 : decode cX4_look 55 = .ok (.iload_n 3, 1) := by decide +kernel
theorem dX4_look_56 : decode cX4_look 56 = .ok (.iconst 1, 1) := by decide +kernel
theorem dX4_look_57 : decode cX4_look 57 = .ok (.invokevirtual 71, 3) := by decide +kernel
theorem dX4_look_60 : decode cX4_look 60 = .ok (.ifCond .ne 7, 3) := by decide +kernel
theorem dX4_look_63 : decode cX4_look 63 = .ok (.ldc2_w 95, 3) := by decide +kernel
theorem dX4_look_66 : decode cX4_look 66 = .ok (.lreturn, 1) := by decide +kernel
theorem dX4_look_67 : decode cX4_look 67 = .ok (.aload 4, 2) := by decide +kernel
theorem dX4_look_69 : decode cX4_look 69 = .ok (.getfield 97, 3) := by decide +kernel
theorem dX4_look_72 : decode cX4_look 72 = .ok (.iload_n 3, 1) := by decide +kernel
theorem dX4_look_73 : decode cX4_look 73 = .ok (.laload, 1) := by decide +kernel
theorem dX4_look_74 : decode cX4_look 74 = .ok (.lreturn, 1) := by decide +kernel
theorem dX4_see_0 : decode cX4_see 0 = .ok (.iload_n 1, 1) := by decide +kernel
theorem dX4_see_1 : decode cX4_see 1 = .ok (.invokestatic 56, 3) := by decide +kernel
theorem dX4_see_4 : decode cX4_see 4 = .ok (.ifCond .ne 5, 3) := by decide +kernel
theorem dX4_see_7 : decode cX4_see 7 = .ok (.dconst 0, 1) := by decide +kernel
theorem dX4_see_8 : decode cX4_see 8 = .ok (.dreturn, 1) := by decide +kernel
theorem dX4_see_9 : decode cX4_see 9 = .ok (.aload_n 0, 1) := by decide +kernel
theorem dX4_see_10 : decode cX4_see 10 = .ok (.getfield 11, 3) := by decide +kernel
theorem dX4_see_13 : decode cX4_see 13 = .ok (.iload_n 1, 1) := by decide +kernel
theorem dX4_see_14 : decode cX4_see 14 = .ok (.aaload, 1) := by decide +kernel
theorem dX4_see_15 : decode cX4_see 15 = .ok (.astore_n 3, 1) := by decide +kernel
theorem dX4_see_16 : decode cX4_see 16 = .ok (.aload_n 3, 1) := by decide +kernel
theorem dX4_see_17 : decode cX4_see 17 = .ok (.getfield 60, 3) := by decide +kernel
theorem dX4_see_20 : decode cX4_see 20 = .ok (.ifCond .eq 19, 3) := by decide +kernel
theorem dX4_see_23 : decode cX4_see 23 = .ok (.aload_n 3, 1) := by decide +kernel
theorem dX4_see_24 : decode cX4_see 24 = .ok (.invokevirtual 75, 3) := by decide +kernel
theorem dX4_see_27 : decode cX4_see 27 = .ok (.ifCond .eq 12, 3) := by decide +kernel
theorem dX4_see_30 : decode cX4_see 30 = .ok (.aload_n 3, 1) := by decide +kernel
theorem dX4_see_31 : decode cX4_see 31 = .ok (.iload_n 2, 1) := by decide +kernel
theorem dX4_see_32 : decode cX4_see 32 = .ok (.iconst 1, 1) := by decide +kernel
theorem dX4_see_33 : decode cX4_see 33 = .ok (.invokevirtual 71, 3) := by decide +kernel
theorem dX4_see_36 : decode cX4_see 36 = .ok (.ifCond .ne 5, 3) := by decide +kernel
theorem dX4_see_39 : decode cX4_see 39 = .ok (.dconst 0, 1) := by decide +kernel
theorem dX4_see_40 : decode cX4_see 40 = .ok (.dreturn, 1) := by decide +kernel
theorem dX4_see_41 : decode cX4_see 41 = .ok (.aload_n 3, 1) := by decide +kernel
theorem dX4_see_42 : decode cX4_see 42 = .ok (.iload_n 2, 1) := by decide +kernel
theorem dX4_see_43 : decode cX4_see 43 = .ok (.invokevirtual 101, 3) := by decide +kernel
theorem dX4_see_46 : decode cX4_see 46 = .ok (.dreturn, 1) := by decide +kernel
theorem dX4_compare_0 : decode cX4_compare 0 = .ok (.iload_n 1, 1) := by decide +kernel
theorem dX4_compare_1 : decode cX4_compare 1 = .ok (.invokestatic 56, 3) := by decide +kernel
theorem dX4_compare_4 : decode cX4_compare 4 = .ok (.ifCond .ne 6, 3) := by decide +kernel
theorem dX4_compare_7 : decode cX4_compare 7 = .ok (.bipush (-3), 2) := by decide +kernel
theorem dX4_compare_9 : decode cX4_compare 9 = .ok (.ireturn, 1) := by decide +kernel
theorem dX4_compare_10 : decode cX4_compare 10 = .ok (.aload_n 0, 1) := by decide +kernel
theorem dX4_compare_11 : decode cX4_compare 11 = .ok (.getfield 11, 3) := by decide +kernel
theorem dX4_compare_14 : decode cX4_compare 14 = .ok (.iload_n 1, 1) := by decide +kernel
theorem dX4_compare_15 : decode cX4_compare 15 = .ok (.aaload, 1) := by decide +kernel
theorem dX4_compare_16 : decode cX4_compare 16 = .ok (.astore 5, 2) := by decide +kernel
theorem dX4_compare_18 : decode cX4_compare 18 = .ok (.aload 5, 2) := by decide +kernel
theorem dX4_compare_20 : decode cX4_compare 20 = .ok (.getfield 60, 3) := by decide +kernel
theorem dX4_compare_23 : decode cX4_compare 23 = .ok (.ifCond .ne 6, 3) := by decide +kernel
theorem dX4_compare_26 : decode cX4_compare 26 = .ok (.bipush (-11), 2) := by decide +kernel
theorem dX4_compare_28 : decode cX4_compare 28 = .ok (.ireturn, 1) := by decide +kernel
theorem dX4_compare_29 : decode cX4_compare 29 = .ok (.aload 5, 2) := by decide +kernel
theorem dX4_compare_31 : decode cX4_compare 31 = .ok (.iload_n 2, 1) := by decide +kernel
theorem dX4_compare_32 : decode cX4_compare 32 = .ok (.iconst 1, 1) := by decide +kernel
theorem dX4_compare_33 : decode cX4_compare 33 = .ok (.invokevirtual 71, 3) := by decide +kernel
theorem dX4_compare_36 : decode cX4_compare 36 = .ok (.ifCond .ne 6, 3) := by decide +kernel
theorem dX4_compare_39 : decode cX4_compare 39 = .ok (.bipush (-13), 2) := by decide +kernel
theorem dX4_compare_41 : decode cX4_compare 41 = .ok (.ireturn, 1) := by decide +kernel
theorem dX4_compare_42 : decode cX4_compare 42 = .ok (.aload 5, 2) := by decide +kernel
theorem dX4_compare_44 : decode cX4_compare 44 = .ok (.iload_n 2, 1) := by decide +kernel
theorem dX4_compare_45 : decode cX4_compare 45 = .ok (.invokevirtual 105, 3) := by decide +kernel
theorem dX4_compare_48 : decode cX4_compare 48 = .ok (.iconst 3, 1) := by decide +kernel
theorem dX4_compare_49 : decode cX4_compare 49 = .ok (.if_icmp .ne 5, 3) := by decide +kernel
theorem dX4_compare_52 : decode cX4_compare 52 = .ok (.iconst 0, 1) := by decide +kernel
theorem dX4_compare_53 : decode cX4_compare 53 = .ok (.ireturn, 1) := by decide +kernel
theorem dX4_compare_54 : decode cX4_compare 54 = .ok (.aload 5, 2) := by decide +kernel
theorem dX4_compare_56 : decode cX4_compare 56 = .ok (.iload_n 2, 1) := by decide +kernel
theorem dX4_compare_57 : decode cX4_compare 57 = .ok (.invokevirtual 101, 3) := by decide +kernel
theorem dX4_compare_60 : decode cX4_compare 60 = .ok (.dstore 6, 2) := by decide +kernel
theorem dX4_compare_62 : decode cX4_compare 62 = .ok (.dload 6, 2) := by decide +kernel
theorem dX4_compare_64 : decode cX4_compare 64 = .ok (.dload_n 3, 1) := by decide +kernel
theorem dX4_compare_65 : decode cX4_compare 65 = .ok (.dcmp .g, 1) := by decide +kernel
theorem dX4_compare_66 : decode cX4_compare 66 = .ok (.ifCond .ge 5, 3) := by decide +kernel
theorem dX4_compare_69 : decode cX4_compare 69 = .ok (.iconst 1, 1) := by decide +kernel
theorem dX4_compare_70 : decode cX4_compare 70 = .ok (.ireturn, 1) := by decide +kernel
theorem dX4_compare_71 : decode cX4_compare 71 = .ok (.dload 6, 2) := by decide +kernel
theorem dX4_compare_73 : decode cX4_compare 73 = .ok (.dload_n 3, 1) := by decide +kernel
theorem dX4_compare_74 : decode cX4_compare 74 = .ok (.dcmp .l, 1) := by decide +kernel
theorem dX4_compare_75 : decode cX4_compare 75 = .ok (.ifCond .ne 5, 3) := by decide +kernel
theorem dX4_compare_78 : decode cX4_compare 78 = .ok (.iconst 2, 1) := by decide +kernel
theorem dX4_compare_79 : decode cX4_compare 79 = .ok (.ireturn, 1) := by decide +kernel
theorem dX4_compare_80 : decode cX4_compare 80 = .ok (.dload 6, 2) := by decide +kernel
theorem dX4_compare_82 : decode cX4_compare 82 = .ok (.dload_n 3, 1) := by decide +kernel
theorem dX4_compare_83 : decode cX4_compare 83 = .ok (.dcmp .l, 1) := by decide +kernel
theorem dX4_compare_84 : decode cX4_compare 84 = .ok (.ifCond .le 7, 3) := by decide +kernel
theorem dX4_compare_87 : decode cX4_compare 87 = .ok (.iconst 3, 1) := by decide +kernel
theorem dX4_compare_88 : decode cX4_compare 88 = .ok (.goto 4, 3) := by decide +kernel
theorem dX4_compare_91 : decode cX4_compare 91 = .ok (.iconst 0, 1) := by decide +kernel
theorem dX4_compare_92 : decode cX4_compare 92 = .ok (.ireturn, 1) := by decide +kernel
theorem dX4_keeper_0 : decode cX4_keeper 0 = .ok (.iload_n 1, 1) := by decide +kernel
theorem dX4_keeper_1 : decode cX4_keeper 1 = .ok (.invokestatic 109, 3) := by decide +kernel
theorem dX4_keeper_4 : decode cX4_keeper 4 = .ok (.ifCond .eq 12, 3) := by decide +kernel
theorem dX4_keeper_7 : decode cX4_keeper 7 = .ok (.iload_n 2, 1) := by decide +kernel
theorem dX4_keeper_8 : decode cX4_keeper 8 = .ok (.ifCond .lt 8, 3) := by decide +kernel
theorem dX4_keeper_11 : decode cX4_keeper 11 = .ok (.iload_n 2, 1) := by decide +kernel
theorem dX4_keeper_12 : decode cX4_keeper 12 = .ok (.iconst 2, 1) := by decide +kernel
theorem dX4_keeper_13 : decode cX4_keeper 13 = .ok (.if_icmp .le 6, 3) := by decide +kernel
theorem dX4_keeper_16 : decode cX4_keeper 16 = .ok (.bipush (-3), 2) := by decide +kernel
theorem dX4_keeper_18 : decode cX4_keeper 18 = .ok (.ireturn, 1) := by decide +kernel
theorem dX4_keeper_19 : decode cX4_keeper 19 = .ok (.aload_n 0, 1) := by decide +kernel
theorem dX4_keeper_20 : decode cX4_keeper 20 = .ok (.iload_n 1, 1) := by decide +kernel
theorem dX4_keeper_21 : decode cX4_keeper 21 = .ok (.invokevirtual 112, 3) := by decide +kernel
theorem dX4_keeper_24 : decode cX4_keeper 24 = .ok (.aload_n 0, 1) := by decide +kernel
theorem dX4_keeper_25 : decode cX4_keeper 25 = .ok (.getfield 17, 3) := by decide +kernel
theorem dX4_keeper_28 : decode cX4_keeper 28 = .ok (.iload_n 1, 1) := by decide +kernel
theorem dX4_keeper_29 : decode cX4_keeper 29 = .ok (.aaload, 1) := by decide +kernel
theorem dX4_keeper_30 : decode cX4_keeper 30 = .ok (.iload_n 2, 1) := by decide +kernel
theorem dX4_keeper_31 : decode cX4_keeper 31 = .ok (.invokevirtual 116, 3) := by decide +kernel
theorem dX4_keeper_34 : decode cX4_keeper 34 = .ok (.iconst 0, 1) := by decide +kernel
theorem dX4_keeper_35 : decode cX4_keeper 35 = .ok (.ireturn, 1) := by decide +kernel
theorem dX4_add_0 : decode cX4_add 0 = .ok (.iload_n 1, 1) := by decide +kernel
theorem dX4_add_1 : decode cX4_add 1 = .ok (.invokestatic 109, 3) := by decide +kernel
theorem dX4_add_4 : decode cX4_add 4 = .ok (.ifCond .eq 24, 3) := by decide +kernel
theorem dX4_add_7 : decode cX4_add 7 = .ok (.iload_n 2, 1) := by decide +kernel
theorem dX4_add_8 : decode cX4_add 8 = .ok (.invokestatic 56, 3) := by decide +kernel
theorem dX4_add_11 : decode cX4_add 11 = .ok (.ifCond .eq 17, 3) := by decide +kernel
theorem dX4_add_14 : decode cX4_add 14 = .ok (.iload 4, 2) := by decide +kernel
theorem dX4_add_16 : decode cX4_add 16 = .ok (.bipush (-40), 2) := by decide +kernel
theorem dX4_add_18 : decode cX4_add 18 = .ok (.if_icmp .lt 10, 3) := by decide +kernel
theorem dX4_add_21 : decode cX4_add 21 = .ok (.iload 4, 2) := by decide +kernel
theorem dX4_add_23 : decode cX4_add 23 = .ok (.bipush 40, 2) := by decide +kernel
theorem dX4_add_25 : decode cX4_add 25 = .ok (.if_icmp .le 6, 3) := by decide +kernel
theorem dX4_add_28 : decode cX4_add 28 = .ok (.bipush (-3), 2) := by decide +kernel
theorem dX4_add_30 : decode cX4_add 30 = .ok (.ireturn, 1) := by decide +kernel
theorem dX4_add_31 : decode cX4_add 31 = .ok (.aload_n 0, 1) := by decide +kernel
theorem dX4_add_32 : decode cX4_add 32 = .ok (.getfield 17, 3) := by decide +kernel
theorem dX4_add_35 : decode cX4_add 35 = .ok (.iload_n 1, 1) := by decide +kernel
theorem dX4_add_36 : decode cX4_add 36 = .ok (.aaload, 1) := by decide +kernel
theorem dX4_add_37 : decode cX4_add 37 = .ok (.astore 5, 2) := by decide +kernel
theorem dX4_add_39 : decode cX4_add 39 = .ok (.aload_n 0, 1) := by decide +kernel
theorem dX4_add_40 : decode cX4_add 40 = .ok (.getfield 11, 3) := by decide +kernel
theorem dX4_add_43 : decode cX4_add 43 = .ok (.iload_n 2, 1) := by decide +kernel
theorem dX4_add_44 : decode cX4_add 44 = .ok (.aaload, 1) := by decide +kernel
theorem dX4_add_45 : decode cX4_add 45 = .ok (.astore 6, 2) := by decide +kernel
theorem dX4_add_47 : decode cX4_add 47 = .ok (.aload 5, 2) := by decide +kernel
theorem dX4_add_49 : decode cX4_add 49 = .ok (.getfield 118, 3) := by decide +kernel
theorem dX4_add_52 : decode cX4_add 52 = .ok (.ifCond .eq 11, 3) := by decide +kernel
theorem dX4_add_55 : decode cX4_add 55 = .ok (.aload 6, 2) := by decide +kernel
theorem dX4_add_57 : decode cX4_add 57 = .ok (.getfield 60, 3) := by decide +kernel
theorem dX4_add_60 : decode cX4_add 60 = .ok (.ifCond .ne 6, 3) := by decide +kernel
theorem dX4_add_63 : decode cX4_add 63 = .ok (.bipush (-11), 2) := by decide +kernel
theorem dX4_add_65 : decode cX4_add 65 = .ok (.ireturn, 1) := by decide +kernel
theorem dX4_add_66 : decode cX4_add 66 = .ok (.aload 5, 2) := by decide +kernel
theorem dX4_add_68 : decode cX4_add 68 = .ok (.getfield 119, 3) := by decide +kernel
theorem dX4_add_71 : decode cX4_add 71 = .ok (.iconst 1, 1) := by decide +kernel
theorem dX4_add_72 : decode cX4_add 72 = .ok (.if_icmp .ne 6, 3) := by decide +kernel
theorem dX4_add_75 : decode cX4_add 75 = .ok (.bipush (-12), 2) := by decide +kernel
theorem dX4_add_77 : decode cX4_add 77 = .ok (.ireturn, 1) := by decide +kernel
theorem dX4_add_78 : decode cX4_add 78 = .ok (.aload 6, 2) := by decide +kernel
theorem dX4_add_80 : decode cX4_add 80 = .ok (.iload_n 3, 1) := by decide +kernel
theorem dX4_add_81 : decode cX4_add 81 = .ok (.iload 4, 2) := by decide +kernel
theorem dX4_add_83 : decode cX4_add 83 = .ok (.invokestatic 120, 3) := by decide +kernel
theorem dX4_add_86 : decode cX4_add 86 = .ok (.invokevirtual 71, 3) := by decide +kernel
theorem dX4_add_89 : decode cX4_add 89 = .ok (.ifCond .ne 6, 3) := by decide +kernel
theorem dX4_add_92 : decode cX4_add 92 = .ok (.bipush (-13), 2) := by decide +kernel
theorem dX4_add_94 : decode cX4_add 94 = .ok (.ireturn, 1) := by decide +kernel
theorem dX4_add_95 : decode cX4_add 95 = .ok (.aload_n 0, 1) := by decide +kernel
theorem dX4_add_96 : decode cX4_add 96 = .ok (.iload_n 1, 1) := by decide +kernel
theorem dX4_add_97 : decode cX4_add 97 = .ok (.aload 6, 2) := by decide +kernel
theorem dX4_add_99 : decode cX4_add 99 = .ok (.aload 5, 2) := by decide +kernel
theorem dX4_add_101 : decode cX4_add 101 = .ok (.getfield 119, 3) := by decide +kernel
theorem dX4_add_104 : decode cX4_add 104 = .ok (.iconst 2, 1) := by decide +kernel
theorem dX4_add_105 : decode cX4_add 105 = .ok (.if_icmp .ne 8, 3) := by decide +kernel
theorem dX4_add_108 : decode cX4_add 108 = .ok (.aload 6, 2) := by decide +kernel
theorem dX4_add_110 : decode cX4_add 110 = .ok (.goto 7, 3) := by decide +kernel
theorem dX4_add_113 : decode cX4_add 113 = .ok (.aload_n 0, 1) := by decide +kernel
theorem dX4_add_114 : decode cX4_add 114 = .ok (.getfield 36, 3) := by decide +kernel
theorem dX4_add_117 : decode cX4_add 117 = .ok (.iload_n 3, 1) := by decide +kernel
theorem dX4_add_118 : decode cX4_add 118 = .ok (.iload 4, 2) := by decide +kernel
theorem dX4_add_120 : decode cX4_add 120 = .ok (.invokevirtual 125, 3) := by decide +kernel
theorem dX4_add_123 : decode cX4_add 123 = .ok (.ireturn, 1) := by decide +kernel
theorem dX4_pair_0 : decode cX4_pair 0 = .ok (.iload_n 1, 1) := by decide +kernel
theorem dX4_pair_1 : decode cX4_pair 1 = .ok (.invokestatic 109, 3) := by decide +kernel
theorem dX4_pair_4 : decode cX4_pair 4 = .ok (.ifCond .eq 31, 3) := by decide +kernel
theorem dX4_pair_7 : decode cX4_pair 7 = .ok (.iload_n 2, 1) := by decide +kernel
theorem dX4_pair_8 : decode cX4_pair 8 = .ok (.invokestatic 56, 3) := by decide +kernel
theorem dX4_pair_11 : decode cX4_pair 11 = .ok (.ifCond .eq 24, 3) := by decide +kernel
theorem dX4_pair_14 : decode cX4_pair 14 = .ok (.iload_n 3, 1) := by decide +kernel
theorem dX4_pair_15 : decode cX4_pair 15 = .ok (.invokestatic 56, 3) := by decide +kernel
theorem dX4_pair_18 : decode cX4_pair 18 = .ok (.ifCond .eq 17, 3) := by decide +kernel
theorem dX4_pair_21 : decode cX4_pair 21 = .ok (.iload 5, 2) := by decide +kernel
theorem dX4_pair_23 : decode cX4_pair 23 = .ok (.bipush (-40), 2) := by decide +kernel
theorem dX4_pair_25 : decode cX4_pair 25 = .ok (.if_icmp .lt 10, 3) := by decide +kernel
theorem dX4_pair_28 : decode cX4_pair 28 = .ok (.iload 5, 2) := by decide +kernel
theorem dX4_pair_30 : decode cX4_pair 30 = .ok (.bipush 40, 2) := by decide +kernel
theorem dX4_pair_32 : decode cX4_pair 32 = .ok (.if_icmp .le 6, 3) := by decide +kernel
theorem dX4_pair_35 : decode cX4_pair 35 = .ok (.bipush (-3), 2) := by decide +kernel
theorem dX4_pair_37 : decode cX4_pair 37 = .ok (.ireturn, 1) := by decide +kernel
theorem dX4_pair_38 : decode cX4_pair 38 = .ok (.aload_n 0, 1) := by decide +kernel
theorem dX4_pair_39 : decode cX4_pair 39 = .ok (.getfield 11, 3) := by decide +kernel
theorem dX4_pair_42 : decode cX4_pair 42 = .ok (.iload_n 2, 1) := by decide +kernel
theorem dX4_pair_43 : decode cX4_pair 43 = .ok (.aaload, 1) := by decide +kernel
theorem dX4_pair_44 : decode cX4_pair 44 = .ok (.astore 6, 2) := by decide +kernel
theorem dX4_pair_46 : decode cX4_pair 46 = .ok (.aload_n 0, 1) := by decide +kernel
theorem dX4_pair_47 : decode cX4_pair 47 = .ok (.getfield 11, 3) := by decide +kernel
theorem dX4_pair_50 : decode cX4_pair 50 = .ok (.iload_n 3, 1) := by decide +kernel
theorem dX4_pair_51 : decode cX4_pair 51 = .ok (.aaload, 1) := by decide +kernel
theorem dX4_pair_52 : decode cX4_pair 52 = .ok (.astore 7, 2) := by decide +kernel
theorem dX4_pair_54 : decode cX4_pair 54 = .ok (.aload_n 0, 1) := by decide +kernel
theorem dX4_pair_55 : decode cX4_pair 55 = .ok (.getfield 17, 3) := by decide +kernel
theorem dX4_pair_58 : decode cX4_pair 58 = .ok (.iload_n 1, 1) := by decide +kernel
theorem dX4_pair_59 : decode cX4_pair 59 = .ok (.aaload, 1) := by decide +kernel
theorem dX4_pair_60 : decode cX4_pair 60 = .ok (.getfield 118, 3) := by decide +kernel
theorem dX4_pair_63 : decode cX4_pair 63 = .ok (.ifCond .eq 19, 3) := by decide +kernel
theorem dX4_pair_66 : decode cX4_pair 66 = .ok (.aload 6, 2) := by decide +kernel
theorem dX4_pair_68 : decode cX4_pair 68 = .ok (.getfield 60, 3) := by decide +kernel
theorem dX4_pair_71 : decode cX4_pair 71 = .ok (.ifCond .eq 11, 3) := by decide +kernel
theorem dX4_pair_74 : decode cX4_pair 74 = .ok (.aload 7, 2) := by decide +kernel
theorem dX4_pair_76 : decode cX4_pair 76 = .ok (.getfield 60, 3) := by decide +kernel
theorem dX4_pair_79 : decode cX4_pair 79 = .ok (.ifCond .ne 6, 3) := by decide +kernel
theorem dX4_pair_82 : decode cX4_pair 82 = .ok (.bipush (-11), 2) := by decide +kernel
theorem dX4_pair_84 : decode cX4_pair 84 = .ok (.ireturn, 1) := by decide +kernel
theorem dX4_pair_85 : decode cX4_pair 85 = .ok (.aload_n 0, 1) := by decide +kernel
theorem dX4_pair_86 : decode cX4_pair 86 = .ok (.getfield 17, 3) := by decide +kernel
theorem dX4_pair_89 : decode cX4_pair 89 = .ok (.iload_n 1, 1) := by decide +kernel
theorem dX4_pair_90 : decode cX4_pair 90 = .ok (.aaload, 1) := by decide +kernel
theorem dX4_pair_91 : decode cX4_pair 91 = .ok (.getfield 119, 3) := by decide +kernel
theorem dX4_pair_94 : decode cX4_pair 94 = .ok (.ifCond .ne 6, 3) := by decide +kernel
theorem dX4_pair_97 : decode cX4_pair 97 = .ok (.bipush (-12), 2) := by decide +kernel
theorem dX4_pair_99 : decode cX4_pair 99 = .ok (.ireturn, 1) := by decide +kernel
theorem dX4_pair_100 : decode cX4_pair 100 = .ok (.aload 6, 2) := by decide +kernel
theorem dX4_pair_102 : decode cX4_pair 102 = .ok (.iload 4, 2) := by decide +kernel
theorem dX4_pair_104 : decode cX4_pair 104 = .ok (.iload 5, 2) := by decide +kernel
theorem dX4_pair_106 : decode cX4_pair 106 = .ok (.invokestatic 120, 3) := by decide +kernel
theorem dX4_pair_109 : decode cX4_pair 109 = .ok (.invokevirtual 71, 3) := by decide +kernel
theorem dX4_pair_112 : decode cX4_pair 112 = .ok (.ifCond .eq 18, 3) := by decide +kernel
theorem dX4_pair_115 : decode cX4_pair 115 = .ok (.aload 7, 2) := by decide +kernel
theorem dX4_pair_117 : decode cX4_pair 117 = .ok (.iload 4, 2) := by decide +kernel
theorem dX4_pair_119 : decode cX4_pair 119 = .ok (.iload 5, 2) := by decide +kernel
theorem dX4_pair_121 : decode cX4_pair 121 = .ok (.invokestatic 120, 3) := by decide +kernel
theorem dX4_pair_124 : decode cX4_pair 124 = .ok (.invokevirtual 71, 3) := by decide +kernel
theorem dX4_pair_127 : decode cX4_pair 127 = .ok (.ifCond .ne 6, 3) := by decide +kernel
theorem dX4_pair_130 : decode cX4_pair 130 = .ok (.bipush (-13), 2) := by decide +kernel
theorem dX4_pair_132 : decode cX4_pair 132 = .ok (.ireturn, 1) := by decide +kernel
theorem dX4_pair_133 : decode cX4_pair 133 = .ok (.aload_n 0, 1) := by decide +kernel
theorem dX4_pair_134 : decode cX4_pair 134 = .ok (.iload_n 1, 1) := by decide +kernel
theorem dX4_pair_135 : decode cX4_pair 135 = .ok (.aload 6, 2) := by decide +kernel
theorem dX4_pair_137 : decode cX4_pair 137 = .ok (.aload 7, 2) := by decide +kernel
theorem dX4_pair_139 : decode cX4_pair 139 = .ok (.iload 4, 2) := by decide +kernel
theorem dX4_pair_141 : decode cX4_pair 141 = .ok (.iload 5, 2) := by decide +kernel
theorem dX4_pair_143 : decode cX4_pair 143 = .ok (.invokevirtual 125, 3) := by decide +kernel
theorem dX4_pair_146 : decode cX4_pair 146 = .ok (.ireturn, 1) := by decide +kernel
theorem dX4_merge_0 : decode cX4_merge 0 = .ok (.iload_n 1, 1) := by decide +kernel
theorem dX4_merge_1 : decode cX4_merge 1 = .ok (.invokestatic 109, 3) := by decide +kernel
theorem dX4_merge_4 : decode cX4_merge 4 = .ok (.ifCond .eq 10, 3) := by decide +kernel
theorem dX4_merge_7 : decode cX4_merge 7 = .ok (.iload_n 2, 1) := by decide +kernel
theorem dX4_merge_8 : decode cX4_merge 8 = .ok (.invokestatic 109, 3) := by decide +kernel
theorem dX4_merge_11 : decode cX4_merge 11 = .ok (.ifCond .ne 6, 3) := by decide +kernel
theorem dX4_merge_14 : decode cX4_merge 14 = .ok (.bipush (-3), 2) := by decide +kernel
theorem dX4_merge_16 : decode cX4_merge 16 = .ok (.ireturn, 1) := by decide +kernel
theorem dX4_merge_17 : decode cX4_merge 17 = .ok (.aload_n 0, 1) := by decide +kernel
theorem dX4_merge_18 : decode cX4_merge 18 = .ok (.getfield 17, 3) := by decide +kernel
theorem dX4_merge_21 : decode cX4_merge 21 = .ok (.iload_n 1, 1) := by decide +kernel
theorem dX4_merge_22 : decode cX4_merge 22 = .ok (.aaload, 1) := by decide +kernel
theorem dX4_merge_23 : decode cX4_merge 23 = .ok (.astore_n 3, 1) := by decide +kernel
theorem dX4_merge_24 : decode cX4_merge 24 = .ok (.aload_n 0, 1) := by decide +kernel
theorem dX4_merge_25 : decode cX4_merge 25 = .ok (.getfield 17, 3) := by decide +kernel
theorem dX4_merge_28 : decode cX4_merge 28 = .ok (.iload_n 2, 1) := by decide +kernel
theorem dX4_merge_29 : decode cX4_merge 29 = .ok (.aaload, 1) := by decide +kernel
theorem dX4_merge_30 : decode cX4_merge 30 = .ok (.astore 4, 2) := by decide +kernel
theorem dX4_merge_32 : decode cX4_merge 32 = .ok (.aload_n 3, 1) := by decide +kernel
theorem dX4_merge_33 : decode cX4_merge 33 = .ok (.getfield 118, 3) := by decide +kernel
theorem dX4_merge_36 : decode cX4_merge 36 = .ok (.ifCond .eq 11, 3) := by decide +kernel
theorem dX4_merge_39 : decode cX4_merge 39 = .ok (.aload 4, 2) := by decide +kernel
theorem dX4_merge_41 : decode cX4_merge 41 = .ok (.getfield 118, 3) := by decide +kernel
theorem dX4_merge_44 : decode cX4_merge 44 = .ok (.ifCond .ne 6, 3) := by decide +kernel
theorem dX4_merge_47 : decode cX4_merge 47 = .ok (.bipush (-11), 2) := by decide +kernel
theorem dX4_merge_49 : decode cX4_merge 49 = .ok (.ireturn, 1) := by decide +kernel
theorem dX4_merge_50 : decode cX4_merge 50 = .ok (.aload_n 3, 1) := by decide +kernel
theorem dX4_merge_51 : decode cX4_merge 51 = .ok (.getfield 119, 3) := by decide +kernel
theorem dX4_merge_54 : decode cX4_merge 54 = .ok (.ifCond .ne 7, 3) := by decide +kernel
theorem dX4_merge_57 : decode cX4_merge 57 = .ok (.iconst 1, 1) := by decide +kernel
theorem dX4_merge_58 : decode cX4_merge 58 = .ok (.goto 4, 3) := by decide +kernel
theorem dX4_merge_61 : decode cX4_merge 61 = .ok (.iconst 0, 1) := by decide +kernel
theorem dX4_merge_62 : decode cX4_merge 62 = .ok (.aload 4, 2) := by decide +kernel
theorem dX4_merge_64 : decode cX4_merge 64 = .ok (.getfield 119, 3) := by decide +kernel
theorem dX4_merge_67 : decode cX4_merge 67 = .ok (.ifCond .ne 7, 3) := by decide +kernel
theorem dX4_merge_70 : decode cX4_merge 70 = .ok (.iconst 1, 1) := by decide +kernel
theorem dX4_merge_71 : decode cX4_merge 71 = .ok (.goto 4, 3) := by decide +kernel
theorem dX4_merge_74 : decode cX4_merge 74 = .ok (.iconst 0, 1) := by decide +kernel
theorem dX4_merge_75 : decode cX4_merge 75 = .ok (.if_icmp .eq 6, 3) := by decide +kernel
theorem dX4_merge_78 : decode cX4_merge 78 = .ok (.bipush (-12), 2) := by decide +kernel
theorem dX4_merge_80 : decode cX4_merge 80 = .ok (.ireturn, 1) := by decide +kernel
theorem dX4_merge_81 : decode cX4_merge 81 = .ok (.aload_n 0, 1) := by decide +kernel
theorem dX4_merge_82 : decode cX4_merge 82 = .ok (.iload_n 1, 1) := by decide +kernel
theorem dX4_merge_83 : decode cX4_merge 83 = .ok (.invokevirtual 112, 3) := by decide +kernel
theorem dX4_merge_86 : decode cX4_merge 86 = .ok (.aload_n 3, 1) := by decide +kernel
theorem dX4_merge_87 : decode cX4_merge 87 = .ok (.aload 4, 2) := by decide +kernel
theorem dX4_merge_89 : decode cX4_merge 89 = .ok (.invokevirtual 129, 3) := by decide +kernel
theorem dX4_merge_92 : decode cX4_merge 92 = .ok (.iconst 0, 1) := by decide +kernel
theorem dX4_merge_93 : decode cX4_merge 93 = .ok (.ireturn, 1) := by decide +kernel
theorem dX4_clear_0 : decode cX4_clear 0 = .ok (.iload_n 1, 1) := by decide +kernel
theorem dX4_clear_1 : decode cX4_clear 1 = .ok (.invokestatic 109, 3) := by decide +kernel
theorem dX4_clear_4 : decode cX4_clear 4 = .ok (.ifCond .ne 6, 3) := by decide +kernel
theorem dX4_clear_7 : decode cX4_clear 7 = .ok (.bipush (-3), 2) := by decide +kernel
theorem dX4_clear_9 : decode cX4_clear 9 = .ok (.ireturn, 1) := by decide +kernel
theorem dX4_clear_10 : decode cX4_clear 10 = .ok (.aload_n 0, 1) := by decide +kernel
theorem dX4_clear_11 : decode cX4_clear 11 = .ok (.getfield 17, 3) := by decide +kernel
theorem dX4_clear_14 : decode cX4_clear 14 = .ok (.iload_n 1, 1) := by decide +kernel
theorem dX4_clear_15 : decode cX4_clear 15 = .ok (.aaload, 1) := by decide +kernel
theorem dX4_clear_16 : decode cX4_clear 16 = .ok (.astore_n 2, 1) := by decide +kernel
theorem dX4_clear_17 : decode cX4_clear 17 = .ok (.aload_n 2, 1) := by decide +kernel
theorem dX4_clear_18 : decode cX4_clear 18 = .ok (.getfield 118, 3) := by decide +kernel
theorem dX4_clear_21 : decode cX4_clear 21 = .ok (.ifCond .ne 6, 3) := by decide +kernel
theorem dX4_clear_24 : decode cX4_clear 24 = .ok (.bipush (-11), 2) := by decide +kernel
theorem dX4_clear_26 : decode cX4_clear 26 = .ok (.ireturn, 1) := by decide +kernel
theorem dX4_clear_27 : decode cX4_clear 27 = .ok (.aload_n 0, 1) := by decide +kernel
theorem dX4_clear_28 : decode cX4_clear 28 = .ok (.iload_n 1, 1) := by decide +kernel
theorem dX4_clear_29 : decode cX4_clear 29 = .ok (.invokevirtual 112, 3) := by decide +kernel
theorem dX4_clear_32 : decode cX4_clear 32 = .ok (.aload_n 2, 1) := by decide +kernel
theorem dX4_clear_33 : decode cX4_clear 33 = .ok (.aload_n 2, 1) := by decide +kernel
theorem dX4_clear_34 : decode cX4_clear 34 = .ok (.getfield 119, 3) := by decide +kernel
theorem dX4_clear_37 : decode cX4_clear 37 = .ok (.invokevirtual 116, 3) := by decide +kernel
theorem dX4_clear_40 : decode cX4_clear 40 = .ok (.iconst 0, 1) := by decide +kernel
theorem dX4_clear_41 : decode cX4_clear 41 = .ok (.ireturn, 1) := by decide +kernel
theorem dX4_error_0 : decode cX4_error 0 = .ok (.iload_n 1, 1) := by decide +kernel
theorem dX4_error_1 : decode cX4_error 1 = .ok (.invokestatic 109, 3) := by decide +kernel
theorem dX4_error_4 : decode cX4_error 4 = .ok (.ifCond .eq 22, 3) := by decide +kernel
theorem dX4_error_7 : decode cX4_error 7 = .ok (.iload_n 2, 1) := by decide +kernel
theorem dX4_error_8 : decode cX4_error 8 = .ok (.invokestatic 56, 3) := by decide +kernel
theorem dX4_error_11 : decode cX4_error 11 = .ok (.ifCond .eq 15, 3) := by decide +kernel
theorem dX4_error_14 : decode cX4_error 14 = .ok (.iload 4, 2) := by decide +kernel
theorem dX4_error_16 : decode cX4_error 16 = .ok (.ifCond .lt 10, 3) := by decide +kernel
theorem dX4_error_19 : decode cX4_error 19 = .ok (.iload 4, 2) := by decide +kernel
theorem dX4_error_21 : decode cX4_error 21 = .ok (.bipush 40, 2) := by decide +kernel
theorem dX4_error_23 : decode cX4_error 23 = .ok (.if_icmp .le 6, 3) := by decide +kernel
theorem dX4_error_26 : decode cX4_error 26 = .ok (.bipush (-3), 2) := by decide +kernel
theorem dX4_error_28 : decode cX4_error 28 = .ok (.ireturn, 1) := by decide +kernel
theorem dX4_error_29 : decode cX4_error 29 = .ok (.aload_n 0, 1) := by decide +kernel
theorem dX4_error_30 : decode cX4_error 30 = .ok (.getfield 17, 3) := by decide +kernel
theorem dX4_error_33 : decode cX4_error 33 = .ok (.iload_n 1, 1) := by decide +kernel
theorem dX4_error_34 : decode cX4_error 34 = .ok (.aaload, 1) := by decide +kernel
theorem dX4_error_35 : decode cX4_error 35 = .ok (.astore 5, 2) := by decide +kernel
theorem dX4_error_37 : decode cX4_error 37 = .ok (.aload_n 0, 1) := by decide +kernel
theorem dX4_error_38 : decode cX4_error 38 = .ok (.getfield 11, 3) := by decide +kernel
theorem dX4_error_41 : decode cX4_error 41 = .ok (.iload_n 2, 1) := by decide +kernel
theorem dX4_error_42 : decode cX4_error 42 = .ok (.aaload, 1) := by decide +kernel
theorem dX4_error_43 : decode cX4_error 43 = .ok (.astore 6, 2) := by decide +kernel
theorem dX4_error_45 : decode cX4_error 45 = .ok (.aload 5, 2) := by decide +kernel
theorem dX4_error_47 : decode cX4_error 47 = .ok (.getfield 118, 3) := by decide +kernel
theorem dX4_error_50 : decode cX4_error 50 = .ok (.ifCond .eq 11, 3) := by decide +kernel
theorem dX4_error_53 : decode cX4_error 53 = .ok (.aload 6, 2) := by decide +kernel
theorem dX4_error_55 : decode cX4_error 55 = .ok (.getfield 60, 3) := by decide +kernel
theorem dX4_error_58 : decode cX4_error 58 = .ok (.ifCond .ne 6, 3) := by decide +kernel
theorem dX4_error_61 : decode cX4_error 61 = .ok (.bipush (-11), 2) := by decide +kernel
theorem dX4_error_63 : decode cX4_error 63 = .ok (.ireturn, 1) := by decide +kernel
theorem dX4_error_64 : decode cX4_error 64 = .ok (.aload 5, 2) := by decide +kernel
theorem dX4_error_66 : decode cX4_error 66 = .ok (.getfield 119, 3) := by decide +kernel
theorem dX4_error_69 : decode cX4_error 69 = .ok (.ifCond .eq 6, 3) := by decide +kernel
theorem dX4_error_72 : decode cX4_error 72 = .ok (.bipush (-12), 2) := by decide +kernel
theorem dX4_error_74 : decode cX4_error 74 = .ok (.ireturn, 1) := by decide +kernel
theorem dX4_error_75 : decode cX4_error 75 = .ok (.aload 6, 2) := by decide +kernel
theorem dX4_error_77 : decode cX4_error 77 = .ok (.iload_n 3, 1) := by decide +kernel
theorem dX4_error_78 : decode cX4_error 78 = .ok (.iload 4, 2) := by decide +kernel
theorem dX4_error_80 : decode cX4_error 80 = .ok (.invokevirtual 71, 3) := by decide +kernel
theorem dX4_error_83 : decode cX4_error 83 = .ok (.ifCond .ne 6, 3) := by decide +kernel
theorem dX4_error_86 : decode cX4_error 86 = .ok (.bipush (-13), 2) := by decide +kernel
theorem dX4_error_88 : decode cX4_error 88 = .ok (.ireturn, 1) := by decide +kernel
theorem dX4_error_89 : decode cX4_error 89 = .ok (.aload_n 0, 1) := by decide +kernel
theorem dX4_error_90 : decode cX4_error 90 = .ok (.iload_n 1, 1) := by decide +kernel
theorem dX4_error_91 : decode cX4_error 91 = .ok (.invokevirtual 112, 3) := by decide +kernel
theorem dX4_error_94 : decode cX4_error 94 = .ok (.aload 5, 2) := by decide +kernel
theorem dX4_error_96 : decode cX4_error 96 = .ok (.iconst 0, 1) := by decide +kernel
theorem dX4_error_97 : decode cX4_error 97 = .ok (.invokevirtual 116, 3) := by decide +kernel
theorem dX4_error_100 : decode cX4_error 100 = .ok (.aload_n 0, 1) := by decide +kernel
theorem dX4_error_101 : decode cX4_error 101 = .ok (.getfield 40, 3) := by decide +kernel
theorem dX4_error_104 : decode cX4_error 104 = .ok (.iconst 0, 1) := by decide +kernel
theorem dX4_error_105 : decode cX4_error 105 = .ok (.aload 6, 2) := by decide +kernel
theorem dX4_error_107 : decode cX4_error 107 = .ok (.iload_n 3, 1) := by decide +kernel
theorem dX4_error_108 : decode cX4_error 108 = .ok (.iload 4, 2) := by decide +kernel
theorem dX4_error_110 : decode cX4_error 110 = .ok (.invokevirtual 133, 3) := by decide +kernel
theorem dX4_error_113 : decode cX4_error 113 = .ok (.invokevirtual 137, 3) := by decide +kernel
theorem dX4_error_116 : decode cX4_error 116 = .ok (.aload 5, 2) := by decide +kernel
theorem dX4_error_118 : decode cX4_error 118 = .ok (.aload 6, 2) := by decide +kernel
theorem dX4_error_120 : decode cX4_error 120 = .ok (.aload_n 0, 1) := by decide +kernel
theorem dX4_error_121 : decode cX4_error 121 = .ok (.getfield 36, 3) := by decide +kernel
theorem dX4_error_124 : decode cX4_error 124 = .ok (.iload_n 3, 1) := by decide +kernel
theorem dX4_error_125 : decode cX4_error 125 = .ok (.iload 4, 2) := by decide +kernel
theorem dX4_error_127 : decode cX4_error 127 = .ok (.iconst 0, 1) := by decide +kernel
theorem dX4_error_128 : decode cX4_error 128 = .ok (.invokevirtual 141, 3) := by decide +kernel
theorem dX4_error_131 : decode cX4_error 131 = .ok (.aload 5, 2) := by decide +kernel
theorem dX4_error_133 : decode cX4_error 133 = .ok (.aload_n 0, 1) := by decide +kernel
theorem dX4_error_134 : decode cX4_error 134 = .ok (.getfield 40, 3) := by decide +kernel
theorem dX4_error_137 : decode cX4_error 137 = .ok (.aload_n 0, 1) := by decide +kernel
theorem dX4_error_138 : decode cX4_error 138 = .ok (.getfield 36, 3) := by decide +kernel
theorem dX4_error_141 : decode cX4_error 141 = .ok (.iconst 0, 1) := by decide +kernel
theorem dX4_error_142 : decode cX4_error 142 = .ok (.iconst 1, 1) := by decide +kernel
theorem dX4_error_143 : decode cX4_error 143 = .ok (.iconst 1, 1) := by decide +kernel
theorem dX4_error_144 : decode cX4_error 144 = .ok (.invokevirtual 141, 3) := by decide +kernel
theorem dX4_error_147 : decode cX4_error 147 = .ok (.aload_n 0, 1) := by decide +kernel
theorem dX4_error_148 : decode cX4_error 148 = .ok (.dup, 1) := by decide +kernel
theorem dX4_error_149 : decode cX4_error 149 = .ok (.getfield 43, 3) := by decide +kernel
theorem dX4_error_152 : decode cX4_error 152 = .ok (.iload 4, 2) := by decide +kernel
theorem dX4_error_154 : decode cX4_error 154 = .ok (.iadd, 1) := by decide +kernel
theorem dX4_error_155 : decode cX4_error 155 = .ok (.putfield 43, 3) := by decide +kernel
theorem dX4_error_158 : decode cX4_error 158 = .ok (.iload 4, 2) := by decide +kernel
theorem dX4_error_160 : decode cX4_error 160 = .ok (.ireturn, 1) := by decide +kernel
theorem dX4_plain_0 : decode cX4_plain 0 = .ok (.iload_n 1, 1) := by decide +kernel
theorem dX4_plain_1 : decode cX4_plain 1 = .ok (.invokestatic 56, 3) := by decide +kernel
theorem dX4_plain_4 : decode cX4_plain 4 = .ok (.ifCond .eq 13, 3) := by decide +kernel
theorem dX4_plain_7 : decode cX4_plain 7 = .ok (.iload_n 3, 1) := by decide +kernel
theorem dX4_plain_8 : decode cX4_plain 8 = .ok (.ifCond .lt 9, 3) := by decide +kernel
theorem dX4_plain_11 : decode cX4_plain 11 = .ok (.iload_n 3, 1) := by decide +kernel
theorem dX4_plain_12 : decode cX4_plain 12 = .ok (.bipush 40, 2) := by decide +kernel
theorem dX4_plain_14 : decode cX4_plain 14 = .ok (.if_icmp .le 5, 3) := by decide +kernel
theorem dX4_plain_17 : decode cX4_plain 17 = .ok (.dconst 0, 1) := by decide +kernel
theorem dX4_plain_18 : decode cX4_plain 18 = .ok (.dreturn, 1) := by decide +kernel
theorem dX4_plain_19 : decode cX4_plain 19 = .ok (.aload_n 0, 1) := by decide +kernel
theorem dX4_plain_20 : decode cX4_plain 20 = .ok (.getfield 11, 3) := by decide +kernel
theorem dX4_plain_23 : decode cX4_plain 23 = .ok (.iload_n 1, 1) := by decide +kernel
theorem dX4_plain_24 : decode cX4_plain 24 = .ok (.aaload, 1) := by decide +kernel
theorem dX4_plain_25 : decode cX4_plain 25 = .ok (.astore 4, 2) := by decide +kernel
theorem dX4_plain_27 : decode cX4_plain 27 = .ok (.aload 4, 2) := by decide +kernel
theorem dX4_plain_29 : decode cX4_plain 29 = .ok (.getfield 60, 3) := by decide +kernel
theorem dX4_plain_32 : decode cX4_plain 32 = .ok (.ifCond .eq 13, 3) := by decide +kernel
theorem dX4_plain_35 : decode cX4_plain 35 = .ok (.aload 4, 2) := by decide +kernel
theorem dX4_plain_37 : decode cX4_plain 37 = .ok (.iload_n 2, 1) := by decide +kernel
theorem dX4_plain_38 : decode cX4_plain 38 = .ok (.iload_n 3, 1) := by decide +kernel
theorem dX4_plain_39 : decode cX4_plain 39 = .ok (.invokevirtual 71, 3) := by decide +kernel
theorem dX4_plain_42 : decode cX4_plain 42 = .ok (.ifCond .ne 5, 3) := by decide +kernel
theorem dX4_plain_45 : decode cX4_plain 45 = .ok (.dconst 0, 1) := by decide +kernel
theorem dX4_plain_46 : decode cX4_plain 46 = .ok (.dreturn, 1) := by decide +kernel
theorem dX4_plain_47 : decode cX4_plain 47 = .ok (.aload 4, 2) := by decide +kernel
theorem dX4_plain_49 : decode cX4_plain 49 = .ok (.iload_n 2, 1) := by decide +kernel
theorem dX4_plain_50 : decode cX4_plain 50 = .ok (.iload_n 3, 1) := by decide +kernel
theorem dX4_plain_51 : decode cX4_plain 51 = .ok (.invokevirtual 133, 3) := by decide +kernel
theorem dX4_plain_54 : decode cX4_plain 54 = .ok (.dreturn, 1) := by decide +kernel
theorem dX4_sort_0 : decode cX4_sort 0 = .ok (.aload_n 0, 1) := by decide +kernel
theorem dX4_sort_1 : decode cX4_sort 1 = .ok (.iload_n 1, 1) := by decide +kernel
theorem dX4_sort_2 : decode cX4_sort 2 = .ok (.invokevirtual 145, 3) := by decide +kernel
theorem dX4_sort_5 : decode cX4_sort 5 = .ok (.istore_n 2, 1) := by decide +kernel
theorem dX4_sort_6 : decode cX4_sort 6 = .ok (.iload_n 2, 1) := by decide +kernel
theorem dX4_sort_7 : decode cX4_sort 7 = .ok (.ifCond .eq 7, 3) := by decide +kernel
theorem dX4_sort_10 : decode cX4_sort 10 = .ok (.iload_n 2, 1) := by decide +kernel
theorem dX4_sort_11 : decode cX4_sort 11 = .ok (.goto 12, 3) := by decide +kernel
theorem dX4_sort_14 : decode cX4_sort 14 = .ok (.aload_n 0, 1) := by decide +kernel
theorem dX4_sort_15 : decode cX4_sort 15 = .ok (.getfield 17, 3) := by decide +kernel
theorem dX4_sort_18 : decode cX4_sort 18 = .ok (.iload_n 1, 1) := by decide +kernel
theorem dX4_sort_19 : decode cX4_sort 19 = .ok (.aaload, 1) := by decide +kernel
theorem dX4_sort_20 : decode cX4_sort 20 = .ok (.invokevirtual 148, 3) := by decide +kernel
theorem dX4_sort_23 : decode cX4_sort 23 = .ok (.ireturn, 1) := by decide +kernel
theorem dX4_seen_0 : decode cX4_seen 0 = .ok (.iload_n 1, 1) := by decide +kernel
theorem dX4_seen_1 : decode cX4_seen 1 = .ok (.invokestatic 109, 3) := by decide +kernel
theorem dX4_seen_4 : decode cX4_seen 4 = .ok (.ifCond .eq 12, 3) := by decide +kernel
theorem dX4_seen_7 : decode cX4_seen 7 = .ok (.iload_n 2, 1) := by decide +kernel
theorem dX4_seen_8 : decode cX4_seen 8 = .ok (.ifCond .lt 8, 3) := by decide +kernel
theorem dX4_seen_11 : decode cX4_seen 11 = .ok (.iload_n 2, 1) := by decide +kernel
theorem dX4_seen_12 : decode cX4_seen 12 = .ok (.iconst 2, 1) := by decide +kernel
theorem dX4_seen_13 : decode cX4_seen 13 = .ok (.if_icmp .le 6, 3) := by decide +kernel
theorem dX4_seen_16 : decode cX4_seen 16 = .ok (.bipush (-3), 2) := by decide +kernel
theorem dX4_seen_18 : decode cX4_seen 18 = .ok (.ireturn, 1) := by decide +kernel
theorem dX4_seen_19 : decode cX4_seen 19 = .ok (.aload_n 0, 1) := by decide +kernel
theorem dX4_seen_20 : decode cX4_seen 20 = .ok (.getfield 17, 3) := by decide +kernel
theorem dX4_seen_23 : decode cX4_seen 23 = .ok (.iload_n 1, 1) := by decide +kernel
theorem dX4_seen_24 : decode cX4_seen 24 = .ok (.aaload, 1) := by decide +kernel
theorem dX4_seen_25 : decode cX4_seen 25 = .ok (.astore_n 3, 1) := by decide +kernel
theorem dX4_seen_26 : decode cX4_seen 26 = .ok (.aload_n 3, 1) := by decide +kernel
theorem dX4_seen_27 : decode cX4_seen 27 = .ok (.getfield 118, 3) := by decide +kernel
theorem dX4_seen_30 : decode cX4_seen 30 = .ok (.ifCond .eq 12, 3) := by decide +kernel
theorem dX4_seen_33 : decode cX4_seen 33 = .ok (.aload_n 3, 1) := by decide +kernel
theorem dX4_seen_34 : decode cX4_seen 34 = .ok (.getfield 152, 3) := by decide +kernel
theorem dX4_seen_37 : decode cX4_seen 37 = .ok (.iload_n 2, 1) := by decide +kernel
theorem dX4_seen_38 : decode cX4_seen 38 = .ok (.iaload, 1) := by decide +kernel
theorem dX4_seen_39 : decode cX4_seen 39 = .ok (.goto 5, 3) := by decide +kernel
theorem dX4_seen_42 : decode cX4_seen 42 = .ok (.bipush (-11), 2) := by decide +kernel
theorem dX4_seen_44 : decode cX4_seen 44 = .ok (.ireturn, 1) := by decide +kernel
theorem dX4_tell_0 : decode cX4_tell 0 = .ok (.aload_n 0, 1) := by decide +kernel
theorem dX4_tell_1 : decode cX4_tell 1 = .ok (.iload_n 1, 1) := by decide +kernel
theorem dX4_tell_2 : decode cX4_tell 2 = .ok (.invokevirtual 145, 3) := by decide +kernel
theorem dX4_tell_5 : decode cX4_tell 5 = .ok (.ifCond .ne 10, 3) := by decide +kernel
theorem dX4_tell_8 : decode cX4_tell 8 = .ok (.iload_n 2, 1) := by decide +kernel
theorem dX4_tell_9 : decode cX4_tell 9 = .ok (.invokestatic 156, 3) := by decide +kernel
theorem dX4_tell_12 : decode cX4_tell 12 = .ok (.ifCond .ne 5, 3) := by decide +kernel
theorem dX4_tell_15 : decode cX4_tell 15 = .ok (.dconst 0, 1) := by decide +kernel
theorem dX4_tell_16 : decode cX4_tell 16 = .ok (.dreturn, 1) := by decide +kernel
theorem dX4_tell_17 : decode cX4_tell 17 = .ok (.aload_n 0, 1) := by decide +kernel
theorem dX4_tell_18 : decode cX4_tell 18 = .ok (.aload_n 0, 1) := by decide +kernel
theorem dX4_tell_19 : decode cX4_tell 19 = .ok (.getfield 17, 3) := by decide +kernel
theorem dX4_tell_22 : decode cX4_tell 22 = .ok (.iload_n 1, 1) := by decide +kernel
theorem dX4_tell_23 : decode cX4_tell 23 = .ok (.aaload, 1) := by decide +kernel
theorem dX4_tell_24 : decode cX4_tell 24 = .ok (.iconst 1, 1) := by decide +kernel
theorem dX4_tell_25 : decode cX4_tell 25 = .ok (.iload_n 2, 1) := by decide +kernel
theorem dX4_tell_26 : decode cX4_tell 26 = .ok (.iload_n 3, 1) := by decide +kernel
theorem dX4_tell_27 : decode cX4_tell 27 = .ok (.invokevirtual 159, 3) := by decide +kernel
theorem dX4_tell_30 : decode cX4_tell 30 = .ok (.dreturn, 1) := by decide +kernel
theorem dX4_mean_0 : decode cX4_mean 0 = .ok (.aload_n 0, 1) := by decide +kernel
theorem dX4_mean_1 : decode cX4_mean 1 = .ok (.iload_n 1, 1) := by decide +kernel
theorem dX4_mean_2 : decode cX4_mean 2 = .ok (.invokevirtual 145, 3) := by decide +kernel
theorem dX4_mean_5 : decode cX4_mean 5 = .ok (.ifCond .ne 21, 3) := by decide +kernel
theorem dX4_mean_8 : decode cX4_mean 8 = .ok (.iload_n 3, 1) := by decide +kernel
theorem dX4_mean_9 : decode cX4_mean 9 = .ok (.invokestatic 156, 3) := by decide +kernel
theorem dX4_mean_12 : decode cX4_mean 12 = .ok (.ifCond .eq 14, 3) := by decide +kernel
theorem dX4_mean_15 : decode cX4_mean 15 = .ok (.iload_n 2, 1) := by decide +kernel
theorem dX4_mean_16 : decode cX4_mean 16 = .ok (.iconst 1, 1) := by decide +kernel
theorem dX4_mean_17 : decode cX4_mean 17 = .ok (.if_icmp .lt 9, 3) := by decide +kernel
theorem dX4_mean_20 : decode cX4_mean 20 = .ok (.iload_n 2, 1) := by decide +kernel
theorem dX4_mean_21 : decode cX4_mean 21 = .ok (.ldc 163, 2) := by decide +kernel
theorem dX4_mean_23 : decode cX4_mean 23 = .ok (.if_icmp .le 5, 3) := by decide +kernel
theorem dX4_mean_26 : decode cX4_mean 26 = .ok (.dconst 0, 1) := by decide +kernel
theorem dX4_mean_27 : decode cX4_mean 27 = .ok (.dreturn, 1) := by decide +kernel
theorem dX4_mean_28 : decode cX4_mean 28 = .ok (.aload_n 0, 1) := by decide +kernel
theorem dX4_mean_29 : decode cX4_mean 29 = .ok (.aload_n 0, 1) := by decide +kernel
theorem dX4_mean_30 : decode cX4_mean 30 = .ok (.getfield 17, 3) := by decide +kernel
theorem dX4_mean_33 : decode cX4_mean 33 = .ok (.iload_n 1, 1) := by decide +kernel
theorem dX4_mean_34 : decode cX4_mean 34 = .ok (.aaload, 1) := by decide +kernel
theorem dX4_mean_35 : decode cX4_mean 35 = .ok (.iload_n 2, 1) := by decide +kernel
theorem dX4_mean_36 : decode cX4_mean 36 = .ok (.iload_n 3, 1) := by decide +kernel
theorem dX4_mean_37 : decode cX4_mean 37 = .ok (.iconst 0, 1) := by decide +kernel
theorem dX4_mean_38 : decode cX4_mean 38 = .ok (.invokevirtual 159, 3) := by decide +kernel
theorem dX4_mean_41 : decode cX4_mean 41 = .ok (.dreturn, 1) := by decide +kernel
theorem dX4_length_0 : decode cX4_length 0 = .ok (.aload_n 0, 1) := by decide +kernel
theorem dX4_length_1 : decode cX4_length 1 = .ok (.iload_n 1, 1) := by decide +kernel
theorem dX4_length_2 : decode cX4_length 2 = .ok (.invokevirtual 145, 3) := by decide +kernel
theorem dX4_length_5 : decode cX4_length 5 = .ok (.ifCond .eq 5, 3) := by decide +kernel
theorem dX4_length_8 : decode cX4_length 8 = .ok (.dconst 0, 1) := by decide +kernel
theorem dX4_length_9 : decode cX4_length 9 = .ok (.dreturn, 1) := by decide +kernel
theorem dX4_length_10 : decode cX4_length 10 = .ok (.aload_n 0, 1) := by decide +kernel
theorem dX4_length_11 : decode cX4_length 11 = .ok (.getfield 17, 3) := by decide +kernel
theorem dX4_length_14 : decode cX4_length 14 = .ok (.iload_n 1, 1) := by decide +kernel
theorem dX4_length_15 : decode cX4_length 15 = .ok (.aaload, 1) := by decide +kernel
theorem dX4_length_16 : decode cX4_length 16 = .ok (.astore_n 3, 1) := by decide +kernel
theorem dX4_length_17 : decode cX4_length 17 = .ok (.aload_n 3, 1) := by decide +kernel
theorem dX4_length_18 : decode cX4_length 18 = .ok (.invokevirtual 148, 3) := by decide +kernel
theorem dX4_length_21 : decode cX4_length 21 = .ok (.istore 4, 2) := by decide +kernel
theorem dX4_length_23 : decode cX4_length 23 = .ok (.aload_n 3, 1) := by decide +kernel
theorem dX4_length_24 : decode cX4_length 24 = .ok (.getfield 119, 3) := by decide +kernel
theorem dX4_length_27 : decode cX4_length 27 = .ok (.ifCond .eq 15, 3) := by decide +kernel
theorem dX4_length_30 : decode cX4_length 30 = .ok (.iload 4, 2) := by decide +kernel
theorem dX4_length_32 : decode cX4_length 32 = .ok (.iconst 3, 1) := by decide +kernel
theorem dX4_length_33 : decode cX4_length 33 = .ok (.if_icmp .eq 9, 3) := by decide +kernel
theorem dX4_length_36 : decode cX4_length 36 = .ok (.iload 4, 2) := by decide +kernel
theorem dX4_length_38 : decode cX4_length 38 = .ok (.iconst 2, 1) := by decide +kernel
theorem dX4_length_39 : decode cX4_length 39 = .ok (.if_icmp .ne 5, 3) := by decide +kernel
theorem dX4_length_42 : decode cX4_length 42 = .ok (.dconst 0, 1) := by decide +kernel
theorem dX4_length_43 : decode cX4_length 43 = .ok (.dreturn, 1) := by decide +kernel
theorem dX4_length_44 : decode cX4_length 44 = .ok (.iload 4, 2) := by decide +kernel
theorem dX4_length_46 : decode cX4_length 46 = .ok (.iconst 1, 1) := by decide +kernel
theorem dX4_length_47 : decode cX4_length 47 = .ok (.if_icmp .ne 7, 3) := by decide +kernel
theorem dX4_length_50 : decode cX4_length 50 = .ok (.invokestatic 164, 3) := by decide +kernel
theorem dX4_length_53 : decode cX4_length 53 = .ok (.dreturn, 1) := by decide +kernel
theorem dX4_length_54 : decode cX4_length 54 = .ok (.aload_n 3, 1) := by decide +kernel
theorem dX4_length_55 : decode cX4_length 55 = .ok (.invokevirtual 168, 3) := by decide +kernel
theorem dX4_length_58 : decode cX4_length 58 = .ok (.ifCond .eq 5, 3) := by decide +kernel
theorem dX4_length_61 : decode cX4_length 61 = .ok (.dconst 0, 1) := by decide +kernel
theorem dX4_length_62 : decode cX4_length 62 = .ok (.dreturn, 1) := by decide +kernel
theorem dX4_length_63 : decode cX4_length 63 = .ok (.aload_n 0, 1) := by decide +kernel
theorem dX4_length_64 : decode cX4_length 64 = .ok (.getfield 31, 3) := by decide +kernel
theorem dX4_length_67 : decode cX4_length 67 = .ok (.aload_n 3, 1) := by decide +kernel
theorem dX4_length_68 : decode cX4_length 68 = .ok (.invokevirtual 171, 3) := by decide +kernel
theorem dX4_length_71 : decode cX4_length 71 = .ok (.aload_n 0, 1) := by decide +kernel
theorem dX4_length_72 : decode cX4_length 72 = .ok (.getfield 31, 3) := by decide +kernel
theorem dX4_length_75 : decode cX4_length 75 = .ok (.iload_n 2, 1) := by decide +kernel
theorem dX4_length_76 : decode cX4_length 76 = .ok (.ifCond .eq 7, 3) := by decide +kernel
theorem dX4_length_79 : decode cX4_length 79 = .ok (.iconst 2, 1) := by decide +kernel
theorem dX4_length_80 : decode cX4_length 80 = .ok (.goto 4, 3) := by decide +kernel
theorem dX4_length_83 : decode cX4_length 83 = .ok (.iconst 1, 1) := by decide +kernel
theorem dX4_length_84 : decode cX4_length 84 = .ok (.invokevirtual 174, 3) := by decide +kernel
theorem dX4_length_87 : decode cX4_length 87 = .ok (.dreturn, 1) := by decide +kernel
theorem dX4_sign_0 : decode cX4_sign 0 = .ok (.aload_n 0, 1) := by decide +kernel
theorem dX4_sign_1 : decode cX4_sign 1 = .ok (.iload_n 1, 1) := by decide +kernel
theorem dX4_sign_2 : decode cX4_sign 2 = .ok (.invokevirtual 145, 3) := by decide +kernel
theorem dX4_sign_5 : decode cX4_sign 5 = .ok (.istore_n 2, 1) := by decide +kernel
theorem dX4_sign_6 : decode cX4_sign 6 = .ok (.iload_n 2, 1) := by decide +kernel
theorem dX4_sign_7 : decode cX4_sign 7 = .ok (.ifCond .eq 5, 3) := by decide +kernel
theorem dX4_sign_10 : decode cX4_sign 10 = .ok (.iload_n 2, 1) := by decide +kernel
theorem dX4_sign_11 : decode cX4_sign 11 = .ok (.ireturn, 1) := by decide +kernel
theorem dX4_sign_12 : decode cX4_sign 12 = .ok (.aload_n 0, 1) := by decide +kernel
theorem dX4_sign_13 : decode cX4_sign 13 = .ok (.getfield 17, 3) := by decide +kernel
theorem dX4_sign_16 : decode cX4_sign 16 = .ok (.iload_n 1, 1) := by decide +kernel
theorem dX4_sign_17 : decode cX4_sign 17 = .ok (.aaload, 1) := by decide +kernel
theorem dX4_sign_18 : decode cX4_sign 18 = .ok (.astore_n 3, 1) := by decide +kernel
theorem dX4_sign_19 : decode cX4_sign 19 = .ok (.aload_n 3, 1) := by decide +kernel
theorem dX4_sign_20 : decode cX4_sign 20 = .ok (.invokevirtual 168, 3) := by decide +kernel
theorem dX4_sign_23 : decode cX4_sign 23 = .ok (.ifCond .eq 5, 3) := by decide +kernel
theorem dX4_sign_26 : decode cX4_sign 26 = .ok (.iconst 2, 1) := by decide +kernel
theorem dX4_sign_27 : decode cX4_sign 27 = .ok (.ireturn, 1) := by decide +kernel
theorem dX4_sign_28 : decode cX4_sign 28 = .ok (.aload_n 3, 1) := by decide +kernel
theorem dX4_sign_29 : decode cX4_sign 29 = .ok (.invokevirtual 177, 3) := by decide +kernel
theorem dX4_sign_32 : decode cX4_sign 32 = .ok (.ifCond .eq 7, 3) := by decide +kernel
theorem dX4_sign_35 : decode cX4_sign 35 = .ok (.iconst 0, 1) := by decide +kernel
theorem dX4_sign_36 : decode cX4_sign 36 = .ok (.goto 4, 3) := by decide +kernel
theorem dX4_sign_39 : decode cX4_sign 39 = .ok (.iconst 1, 1) := by decide +kernel
theorem dX4_sign_40 : decode cX4_sign 40 = .ok (.ireturn, 1) := by decide +kernel
theorem dX4_high_0 : decode cX4_high 0 = .ok (.aload_n 0, 1) := by decide +kernel
theorem dX4_high_1 : decode cX4_high 1 = .ok (.iload_n 1, 1) := by decide +kernel
theorem dX4_high_2 : decode cX4_high 2 = .ok (.invokevirtual 145, 3) := by decide +kernel
theorem dX4_high_5 : decode cX4_high 5 = .ok (.istore_n 2, 1) := by decide +kernel
theorem dX4_high_6 : decode cX4_high 6 = .ok (.iload_n 2, 1) := by decide +kernel
theorem dX4_high_7 : decode cX4_high 7 = .ok (.ifCond .eq 9, 3) := by decide +kernel
theorem dX4_high_10 : decode cX4_high 10 = .ok (.iload_n 2, 1) := by decide +kernel
theorem dX4_high_11 : decode cX4_high 11 = .ok (.sipush (-9999), 3) := by decide +kernel
theorem dX4_high_14 : decode cX4_high 14 = .ok (.iadd, 1) := by decide +kernel
theorem dX4_high_15 : decode cX4_high 15 = .ok (.ireturn, 1) := by decide +kernel
theorem dX4_high_16 : decode cX4_high 16 = .ok (.aload_n 0, 1) := by decide +kernel
theorem dX4_high_17 : decode cX4_high 17 = .ok (.getfield 31, 3) := by decide +kernel
theorem dX4_high_20 : decode cX4_high 20 = .ok (.aload_n 0, 1) := by decide +kernel
theorem dX4_high_21 : decode cX4_high 21 = .ok (.getfield 17, 3) := by decide +kernel
theorem dX4_high_24 : decode cX4_high 24 = .ok (.iload_n 1, 1) := by decide +kernel
theorem dX4_high_25 : decode cX4_high 25 = .ok (.aaload, 1) := by decide +kernel
theorem dX4_high_26 : decode cX4_high 26 = .ok (.invokevirtual 171, 3) := by decide +kernel
theorem dX4_high_29 : decode cX4_high 29 = .ok (.aload_n 0, 1) := by decide +kernel
theorem dX4_high_30 : decode cX4_high 30 = .ok (.getfield 31, 3) := by decide +kernel
theorem dX4_high_33 : decode cX4_high 33 = .ok (.invokevirtual 180, 3) := by decide +kernel
theorem dX4_high_36 : decode cX4_high 36 = .ok (.istore_n 3, 1) := by decide +kernel
theorem dX4_high_37 : decode cX4_high 37 = .ok (.iload_n 3, 1) := by decide +kernel
theorem dX4_high_38 : decode cX4_high 38 = .ok (.ifCond .ge 9, 3) := by decide +kernel
theorem dX4_high_41 : decode cX4_high 41 = .ok (.sipush (-10000), 3) := by decide +kernel
theorem dX4_high_44 : decode cX4_high 44 = .ok (.goto 8, 3) := by decide +kernel
theorem dX4_high_47 : decode cX4_high 47 = .ok (.iload_n 3, 1) := by decide +kernel
theorem dX4_high_48 : decode cX4_high 48 = .ok (.sipush (-2148), 3) := by decide +kernel
theorem dX4_high_51 : decode cX4_high 51 = .ok (.iadd, 1) := by decide +kernel
theorem dX4_high_52 : decode cX4_high 52 = .ok (.ireturn, 1) := by decide +kernel
theorem dX4_bit_0 : decode cX4_bit 0 = .ok (.iload_n 1, 1) := by decide +kernel
theorem dX4_bit_1 : decode cX4_bit 1 = .ok (.invokestatic 109, 3) := by decide +kernel
theorem dX4_bit_4 : decode cX4_bit 4 = .ok (.ifCond .eq 17, 3) := by decide +kernel
theorem dX4_bit_7 : decode cX4_bit 7 = .ok (.iload_n 2, 1) := by decide +kernel
theorem dX4_bit_8 : decode cX4_bit 8 = .ok (.sipush (-2148), 3) := by decide +kernel
theorem dX4_bit_11 : decode cX4_bit 11 = .ok (.if_icmp .lt 10, 3) := by decide +kernel
theorem dX4_bit_14 : decode cX4_bit 14 = .ok (.iload_n 2, 1) := by decide +kernel
theorem dX4_bit_15 : decode cX4_bit 15 = .ok (.sipush 2200, 3) := by decide +kernel
theorem dX4_bit_18 : decode cX4_bit 18 = .ok (.if_icmp .le 6, 3) := by decide +kernel
theorem dX4_bit_21 : decode cX4_bit 21 = .ok (.bipush (-3), 2) := by decide +kernel
theorem dX4_bit_23 : decode cX4_bit 23 = .ok (.ireturn, 1) := by decide +kernel
theorem dX4_bit_24 : decode cX4_bit 24 = .ok (.aload_n 0, 1) := by decide +kernel
theorem dX4_bit_25 : decode cX4_bit 25 = .ok (.getfield 17, 3) := by decide +kernel
theorem dX4_bit_28 : decode cX4_bit 28 = .ok (.iload_n 1, 1) := by decide +kernel
theorem dX4_bit_29 : decode cX4_bit 29 = .ok (.aaload, 1) := by decide +kernel
theorem dX4_bit_30 : decode cX4_bit 30 = .ok (.astore_n 3, 1) := by decide +kernel
theorem dX4_bit_31 : decode cX4_bit 31 = .ok (.aload_n 3, 1) := by decide +kernel
theorem dX4_bit_32 : decode cX4_bit 32 = .ok (.getfield 118, 3) := by decide +kernel
theorem dX4_bit_35 : decode cX4_bit 35 = .ok (.ifCond .ne 6, 3) := by decide +kernel
theorem dX4_bit_38 : decode cX4_bit 38 = .ok (.bipush (-11), 2) := by decide +kernel
theorem dX4_bit_40 : decode cX4_bit 40 = .ok (.ireturn, 1) := by decide +kernel
theorem dX4_bit_41 : decode cX4_bit 41 = .ok (.aload_n 0, 1) := by decide +kernel
theorem dX4_bit_42 : decode cX4_bit 42 = .ok (.getfield 31, 3) := by decide +kernel
theorem dX4_bit_45 : decode cX4_bit 45 = .ok (.aload_n 3, 1) := by decide +kernel
theorem dX4_bit_46 : decode cX4_bit 46 = .ok (.invokevirtual 171, 3) := by decide +kernel
theorem dX4_bit_49 : decode cX4_bit 49 = .ok (.aload_n 0, 1) := by decide +kernel
theorem dX4_bit_50 : decode cX4_bit 50 = .ok (.getfield 31, 3) := by decide +kernel
theorem dX4_bit_53 : decode cX4_bit 53 = .ok (.iload_n 2, 1) := by decide +kernel
theorem dX4_bit_54 : decode cX4_bit 54 = .ok (.sipush (-2148), 3) := by decide +kernel
theorem dX4_bit_57 : decode cX4_bit 57 = .ok (.isub, 1) := by decide +kernel
theorem dX4_bit_58 : decode cX4_bit 58 = .ok (.invokevirtual 183, 3) := by decide +kernel
theorem dX4_bit_61 : decode cX4_bit 61 = .ok (.ireturn, 1) := by decide +kernel
theorem dX4_order_0 : decode cX4_order 0 = .ok (.iload_n 1, 1) := by decide +kernel
theorem dX4_order_1 : decode cX4_order 1 = .ok (.invokestatic 109, 3) := by decide +kernel
theorem dX4_order_4 : decode cX4_order 4 = .ok (.ifCond .eq 10, 3) := by decide +kernel
theorem dX4_order_7 : decode cX4_order 7 = .ok (.iload_n 2, 1) := by decide +kernel
theorem dX4_order_8 : decode cX4_order 8 = .ok (.invokestatic 109, 3) := by decide +kernel
theorem dX4_order_11 : decode cX4_order 11 = .ok (.ifCond .ne 6, 3) := by decide +kernel
theorem dX4_order_14 : decode cX4_order 14 = .ok (.bipush (-3), 2) := by decide +kernel
theorem dX4_order_16 : decode cX4_order 16 = .ok (.ireturn, 1) := by decide +kernel
theorem dX4_order_17 : decode cX4_order 17 = .ok (.aload_n 0, 1) := by decide +kernel
theorem dX4_order_18 : decode cX4_order 18 = .ok (.getfield 17, 3) := by decide +kernel
theorem dX4_order_21 : decode cX4_order 21 = .ok (.iload_n 1, 1) := by decide +kernel
theorem dX4_order_22 : decode cX4_order 22 = .ok (.aaload, 1) := by decide +kernel
theorem dX4_order_23 : decode cX4_order 23 = .ok (.astore_n 3, 1) := by decide +kernel
theorem dX4_order_24 : decode cX4_order 24 = .ok (.aload_n 0, 1) := by decide +kernel
theorem dX4_order_25 : decode cX4_order 25 = .ok (.getfield 17, 3) := by decide +kernel
theorem dX4_order_28 : decode cX4_order 28 = .ok (.iload_n 2, 1) := by decide +kernel
theorem dX4_order_29 : decode cX4_order 29 = .ok (.aaload, 1) := by decide +kernel
theorem dX4_order_30 : decode cX4_order 30 = .ok (.astore 4, 2) := by decide +kernel
theorem dX4_order_32 : decode cX4_order 32 = .ok (.aload_n 3, 1) := by decide +kernel
theorem dX4_order_33 : decode cX4_order 33 = .ok (.getfield 118, 3) := by decide +kernel
theorem dX4_order_36 : decode cX4_order 36 = .ok (.ifCond .eq 11, 3) := by decide +kernel
theorem dX4_order_39 : decode cX4_order 39 = .ok (.aload 4, 2) := by decide +kernel
theorem dX4_order_41 : decode cX4_order 41 = .ok (.getfield 118, 3) := by decide +kernel
theorem dX4_order_44 : decode cX4_order 44 = .ok (.ifCond .ne 6, 3) := by decide +kernel
theorem dX4_order_47 : decode cX4_order 47 = .ok (.bipush (-11), 2) := by decide +kernel
theorem dX4_order_49 : decode cX4_order 49 = .ok (.ireturn, 1) := by decide +kernel
theorem dX4_order_50 : decode cX4_order 50 = .ok (.aload_n 3, 1) := by decide +kernel
theorem dX4_order_51 : decode cX4_order 51 = .ok (.aload 4, 2) := by decide +kernel
theorem dX4_order_53 : decode cX4_order 53 = .ok (.invokevirtual 186, 3) := by decide +kernel
theorem dX4_order_56 : decode cX4_order 56 = .ok (.istore 5, 2) := by decide +kernel
theorem dX4_order_58 : decode cX4_order 58 = .ok (.iload 5, 2) := by decide +kernel
theorem dX4_order_60 : decode cX4_order 60 = .ok (.ifCond .ne 5, 3) := by decide +kernel
theorem dX4_order_63 : decode cX4_order 63 = .ok (.iconst 1, 1) := by decide +kernel
theorem dX4_order_64 : decode cX4_order 64 = .ok (.ireturn, 1) := by decide +kernel
theorem dX4_order_65 : decode cX4_order 65 = .ok (.iload 5, 2) := by decide +kernel
theorem dX4_order_67 : decode cX4_order 67 = .ok (.ifCond .ge 7, 3) := by decide +kernel
theorem dX4_order_70 : decode cX4_order 70 = .ok (.iconst 2, 1) := by decide +kernel
theorem dX4_order_71 : decode cX4_order 71 = .ok (.goto 4, 3) := by decide +kernel
theorem dX4_order_74 : decode cX4_order 74 = .ok (.iconst 3, 1) := by decide +kernel
theorem dX4_order_75 : decode cX4_order 75 = .ok (.ireturn, 1) := by decide +kernel
theorem dX4_undo_0 : decode cX4_undo 0 = .ok (.aload_n 0, 1) := by decide +kernel
theorem dX4_undo_1 : decode cX4_undo 1 = .ok (.getfield 24, 3) := by decide +kernel
theorem dX4_undo_4 : decode cX4_undo 4 = .ok (.getfield 190, 3) := by decide +kernel
theorem dX4_undo_7 : decode cX4_undo 7 = .ok (.ifCond .ne 5, 3) := by decide +kernel
theorem dX4_undo_10 : decode cX4_undo 10 = .ok (.iconst (-1), 1) := by decide +kernel
theorem dX4_undo_11 : decode cX4_undo 11 = .ok (.ireturn, 1) := by decide +kernel
theorem dX4_undo_12 : decode cX4_undo 12 = .ok (.aload_n 0, 1) := by decide +kernel
theorem dX4_undo_13 : decode cX4_undo 13 = .ok (.getfield 24, 3) := by decide +kernel
theorem dX4_undo_16 : decode cX4_undo 16 = .ok (.invokevirtual 193, 3) := by decide +kernel
theorem dX4_undo_19 : decode cX4_undo 19 = .ok (.istore_n 1, 1) := by decide +kernel
theorem dX4_undo_20 : decode cX4_undo 20 = .ok (.iload_n 1, 1) := by decide +kernel
theorem dX4_undo_21 : decode cX4_undo 21 = .ok (.invokestatic 109, 3) := by decide +kernel
theorem dX4_undo_24 : decode cX4_undo 24 = .ok (.ifCond .ne 5, 3) := by decide +kernel
theorem dX4_undo_27 : decode cX4_undo 27 = .ok (.iconst (-1), 1) := by decide +kernel
theorem dX4_undo_28 : decode cX4_undo 28 = .ok (.ireturn, 1) := by decide +kernel
theorem dX4_undo_29 : decode cX4_undo 29 = .ok (.aload_n 0, 1) := by decide +kernel
theorem dX4_undo_30 : decode cX4_undo 30 = .ok (.getfield 24, 3) := by decide +kernel
theorem dX4_undo_33 : decode cX4_undo 33 = .ok (.aload_n 0, 1) := by decide +kernel
theorem dX4_undo_34 : decode cX4_undo 34 = .ok (.getfield 17, 3) := by decide +kernel
theorem dX4_undo_37 : decode cX4_undo 37 = .ok (.iload_n 1, 1) := by decide +kernel
theorem dX4_undo_38 : decode cX4_undo 38 = .ok (.aaload, 1) := by decide +kernel
theorem dX4_undo_39 : decode cX4_undo 39 = .ok (.invokevirtual 196, 3) := by decide +kernel
theorem dX4_undo_42 : decode cX4_undo 42 = .ok (.iload_n 1, 1) := by decide +kernel
theorem dX4_undo_43 : decode cX4_undo 43 = .ok (.ireturn, 1) := by decide +kernel
theorem dX4_count_0 : decode cX4_count 0 = .ok (.iload_n 1, 1) := by decide +kernel
theorem dX4_count_1 : decode cX4_count 1 = .ok (.tableswitch 74 0 5 #[39, 44, 50, 58, 63, 68], 39) := by decide +kernel
theorem dX4_count_40 : decode cX4_count 40 = .ok (.aload_n 0, 1) := by decide +kernel
theorem dX4_count_41 : decode cX4_count 41 = .ok (.invokevirtual 199, 3) := by decide +kernel
theorem dX4_count_44 : decode cX4_count 44 = .ok (.ireturn, 1) := by decide +kernel
theorem dX4_count_45 : decode cX4_count 45 = .ok (.aload_n 0, 1) := by decide +kernel
theorem dX4_count_46 : decode cX4_count 46 = .ok (.iconst 0, 1) := by decide +kernel
theorem dX4_count_47 : decode cX4_count 47 = .ok (.invokevirtual 202, 3) := by decide +kernel
theorem dX4_count_50 : decode cX4_count 50 = .ok (.ireturn, 1) := by decide +kernel
theorem dX4_count_51 : decode cX4_count 51 = .ok (.aload_n 0, 1) := by decide +kernel
theorem dX4_count_52 : decode cX4_count 52 = .ok (.getfield 24, 3) := by decide +kernel
theorem dX4_count_55 : decode cX4_count 55 = .ok (.getfield 190, 3) := by decide +kernel
theorem dX4_count_58 : decode cX4_count 58 = .ok (.ireturn, 1) := by decide +kernel
theorem dX4_count_59 : decode cX4_count 59 = .ok (.aload_n 0, 1) := by decide +kernel
theorem dX4_count_60 : decode cX4_count 60 = .ok (.invokevirtual 206, 3) := by decide +kernel
theorem dX4_count_63 : decode cX4_count 63 = .ok (.ireturn, 1) := by decide +kernel
theorem dX4_count_64 : decode cX4_count 64 = .ok (.aload_n 0, 1) := by decide +kernel
theorem dX4_count_65 : decode cX4_count 65 = .ok (.getfield 43, 3) := by decide +kernel
theorem dX4_count_68 : decode cX4_count 68 = .ok (.ireturn, 1) := by decide +kernel
theorem dX4_count_69 : decode cX4_count 69 = .ok (.aload_n 0, 1) := by decide +kernel
theorem dX4_count_70 : decode cX4_count 70 = .ok (.iconst 1, 1) := by decide +kernel
theorem dX4_count_71 : decode cX4_count 71 = .ok (.invokevirtual 202, 3) := by decide +kernel
theorem dX4_count_74 : decode cX4_count 74 = .ok (.ireturn, 1) := by decide +kernel
theorem dX4_count_75 : decode cX4_count 75 = .ok (.bipush (-3), 2) := by decide +kernel
theorem dX4_count_77 : decode cX4_count 77 = .ok (.ireturn, 1) := by decide +kernel
theorem dX4_isRow_0 : decode cX4_isRow 0 = .ok (.iload_n 0, 1) := by decide +kernel
theorem dX4_isRow_1 : decode cX4_isRow 1 = .ok (.ifCond .lt 13, 3) := by decide +kernel
theorem dX4_isRow_4 : decode cX4_isRow 4 = .ok (.iload_n 0, 1) := by decide +kernel
theorem dX4_isRow_5 : decode cX4_isRow 5 = .ok (.bipush 12, 2) := by decide +kernel
theorem dX4_isRow_7 : decode cX4_isRow 7 = .ok (.if_icmp .ge 7, 3) := by decide +kernel
theorem dX4_isRow_10 : decode cX4_isRow 10 = .ok (.iconst 1, 1) := by decide +kernel
theorem dX4_isRow_11 : decode cX4_isRow 11 = .ok (.goto 4, 3) := by decide +kernel
theorem dX4_isRow_14 : decode cX4_isRow 14 = .ok (.iconst 0, 1) := by decide +kernel
theorem dX4_isRow_15 : decode cX4_isRow 15 = .ok (.ireturn, 1) := by decide +kernel
theorem dX4_isKeeper_0 : decode cX4_isKeeper 0 = .ok (.iload_n 0, 1) := by decide +kernel
theorem dX4_isKeeper_1 : decode cX4_isKeeper 1 = .ok (.ifCond .lt 13, 3) := by decide +kernel
theorem dX4_isKeeper_4 : decode cX4_isKeeper 4 = .ok (.iload_n 0, 1) := by decide +kernel
theorem dX4_isKeeper_5 : decode cX4_isKeeper 5 = .ok (.bipush 6, 2) := by decide +kernel
theorem dX4_isKeeper_7 : decode cX4_isKeeper 7 = .ok (.if_icmp .ge 7, 3) := by decide +kernel
theorem dX4_isKeeper_10 : decode cX4_isKeeper 10 = .ok (.iconst 1, 1) := by decide +kernel
theorem dX4_isKeeper_11 : decode cX4_isKeeper 11 = .ok (.goto 4, 3) := by decide +kernel
theorem dX4_isKeeper_14 : decode cX4_isKeeper 14 = .ok (.iconst 0, 1) := by decide +kernel
theorem dX4_isKeeper_15 : decode cX4_isKeeper 15 = .ok (.ireturn, 1) := by decide +kernel
theorem dX4_isWay_0 : decode cX4_isWay 0 = .ok (.iload_n 0, 1) := by decide +kernel
theorem dX4_isWay_1 : decode cX4_isWay 1 = .ok (.ifCond .lt 12, 3) := by decide +kernel
theorem dX4_isWay_4 : decode cX4_isWay 4 = .ok (.iload_n 0, 1) := by decide +kernel
theorem dX4_isWay_5 : decode cX4_isWay 5 = .ok (.iconst 3, 1) := by decide +kernel
theorem dX4_isWay_6 : decode cX4_isWay 6 = .ok (.if_icmp .gt 7, 3) := by decide +kernel
theorem dX4_isWay_9 : decode cX4_isWay 9 = .ok (.iconst 1, 1) := by decide +kernel
theorem dX4_isWay_10 : decode cX4_isWay 10 = .ok (.goto 4, 3) := by decide +kernel
theorem dX4_isWay_13 : decode cX4_isWay 13 = .ok (.iconst 0, 1) := by decide +kernel
theorem dX4_isWay_14 : decode cX4_isWay 14 = .ok (.ireturn, 1) := by decide +kernel
theorem dX4_findingOf_0 : decode cX4_findingOf 0 = .ok (.iload_n 1, 1) := by decide +kernel
theorem dX4_findingOf_1 : decode cX4_findingOf 1 = .ok (.invokestatic 109, 3) := by decide +kernel
theorem dX4_findingOf_4 : decode cX4_findingOf 4 = .ok (.ifCond .ne 6, 3) := by decide +kernel
theorem dX4_findingOf_7 : decode cX4_findingOf 7 = .ok (.bipush (-3), 2) := by decide +kernel
theorem dX4_findingOf_9 : decode cX4_findingOf 9 = .ok (.ireturn, 1) := by decide +kernel
theorem dX4_findingOf_10 : decode cX4_findingOf 10 = .ok (.aload_n 0, 1) := by decide +kernel
theorem dX4_findingOf_11 : decode cX4_findingOf 11 = .ok (.getfield 17, 3) := by decide +kernel
theorem dX4_findingOf_14 : decode cX4_findingOf 14 = .ok (.iload_n 1, 1) := by decide +kernel
theorem dX4_findingOf_15 : decode cX4_findingOf 15 = .ok (.aaload, 1) := by decide +kernel
theorem dX4_findingOf_16 : decode cX4_findingOf 16 = .ok (.getfield 118, 3) := by decide +kernel
theorem dX4_findingOf_19 : decode cX4_findingOf 19 = .ok (.ifCond .eq 7, 3) := by decide +kernel
theorem dX4_findingOf_22 : decode cX4_findingOf 22 = .ok (.iconst 0, 1) := by decide +kernel
theorem dX4_findingOf_23 : decode cX4_findingOf 23 = .ok (.goto 5, 3) := by decide +kernel
theorem dX4_findingOf_26 : decode cX4_findingOf 26 = .ok (.bipush (-11), 2) := by decide +kernel
theorem dX4_findingOf_28 : decode cX4_findingOf 28 = .ok (.ireturn, 1) := by decide +kernel
theorem dX4_remember_0 : decode cX4_remember 0 = .ok (.aload_n 0, 1) := by decide +kernel
theorem dX4_remember_1 : decode cX4_remember 1 = .ok (.getfield 24, 3) := by decide +kernel
theorem dX4_remember_4 : decode cX4_remember 4 = .ok (.iload_n 1, 1) := by decide +kernel
theorem dX4_remember_5 : decode cX4_remember 5 = .ok (.aload_n 0, 1) := by decide +kernel
theorem dX4_remember_6 : decode cX4_remember 6 = .ok (.getfield 17, 3) := by decide +kernel
theorem dX4_remember_9 : decode cX4_remember 9 = .ok (.iload_n 1, 1) := by decide +kernel
theorem dX4_remember_10 : decode cX4_remember 10 = .ok (.aaload, 1) := by decide +kernel
theorem dX4_remember_11 : decode cX4_remember 11 = .ok (.invokevirtual 209, 3) := by decide +kernel
theorem dX4_remember_14 : decode cX4_remember 14 = .ok (.return_, 1) := by decide +kernel
theorem dX4_gatherInto_0 : decode cX4_gatherInto 0 = .ok (.iload 5, 2) := by decide +kernel
theorem dX4_gatherInto_2 : decode cX4_gatherInto 2 = .ok (.invokestatic 120, 3) := by decide +kernel
theorem dX4_gatherInto_5 : decode cX4_gatherInto 5 = .ok (.istore 6, 2) := by decide +kernel
theorem dX4_gatherInto_7 : decode cX4_gatherInto 7 = .ok (.aload_n 0, 1) := by decide +kernel
theorem dX4_gatherInto_8 : decode cX4_gatherInto 8 = .ok (.iload_n 1, 1) := by decide +kernel
theorem dX4_gatherInto_9 : decode cX4_gatherInto 9 = .ok (.invokevirtual 112, 3) := by decide +kernel
theorem dX4_gatherInto_12 : decode cX4_gatherInto 12 = .ok (.aload_n 0, 1) := by decide +kernel
theorem dX4_gatherInto_13 : decode cX4_gatherInto 13 = .ok (.getfield 17, 3) := by decide +kernel
theorem dX4_gatherInto_16 : decode cX4_gatherInto 16 = .ok (.iload_n 1, 1) := by decide +kernel
theorem dX4_gatherInto_17 : decode cX4_gatherInto 17 = .ok (.aaload, 1) := by decide +kernel
theorem dX4_gatherInto_18 : decode cX4_gatherInto 18 = .ok (.aload_n 2, 1) := by decide +kernel
theorem dX4_gatherInto_19 : decode cX4_gatherInto 19 = .ok (.aload_n 3, 1) := by decide +kernel
theorem dX4_gatherInto_20 : decode cX4_gatherInto 20 = .ok (.iload 4, 2) := by decide +kernel
theorem dX4_gatherInto_22 : decode cX4_gatherInto 22 = .ok (.iload 6, 2) := by decide +kernel
theorem dX4_gatherInto_24 : decode cX4_gatherInto 24 = .ok (.iload 5, 2) := by decide +kernel
theorem dX4_gatherInto_26 : decode cX4_gatherInto 26 = .ok (.ifCond .ge 7, 3) := by decide +kernel
theorem dX4_gatherInto_29 : decode cX4_gatherInto 29 = .ok (.iconst 1, 1) := by decide +kernel
theorem dX4_gatherInto_30 : decode cX4_gatherInto 30 = .ok (.goto 4, 3) := by decide +kernel
theorem dX4_gatherInto_33 : decode cX4_gatherInto 33 = .ok (.iconst 0, 1) := by decide +kernel
theorem dX4_gatherInto_34 : decode cX4_gatherInto 34 = .ok (.invokevirtual 141, 3) := by decide +kernel
theorem dX4_gatherInto_37 : decode cX4_gatherInto 37 = .ok (.aload_n 0, 1) := by decide +kernel
theorem dX4_gatherInto_38 : decode cX4_gatherInto 38 = .ok (.dup, 1) := by decide +kernel
theorem dX4_gatherInto_39 : decode cX4_gatherInto 39 = .ok (.getfield 43, 3) := by decide +kernel
theorem dX4_gatherInto_42 : decode cX4_gatherInto 42 = .ok (.iload 6, 2) := by decide +kernel
theorem dX4_gatherInto_44 : decode cX4_gatherInto 44 = .ok (.iadd, 1) := by decide +kernel
theorem dX4_gatherInto_45 : decode cX4_gatherInto 45 = .ok (.putfield 43, 3) := by decide +kernel
theorem dX4_gatherInto_48 : decode cX4_gatherInto 48 = .ok (.iload 6, 2) := by decide +kernel
theorem dX4_gatherInto_50 : decode cX4_gatherInto 50 = .ok (.ireturn, 1) := by decide +kernel
theorem dX4_sharedOut_0 : decode cX4_sharedOut 0 = .ok (.aload_n 1, 1) := by decide +kernel
theorem dX4_sharedOut_1 : decode cX4_sharedOut 1 = .ok (.invokevirtual 148, 3) := by decide +kernel
theorem dX4_sharedOut_4 : decode cX4_sharedOut 4 = .ok (.tableswitch 39 1 3 #[28, 32, 37], 28) := by decide +kernel
theorem dX4_sharedOut_32 : decode cX4_sharedOut 32 = .ok (.invokestatic 164, 3) := by decide +kernel
theorem dX4_sharedOut_35 : decode cX4_sharedOut 35 = .ok (.dreturn, 1) := by decide +kernel
theorem dX4_sharedOut_36 : decode cX4_sharedOut 36 = .ok (.invokestatic 164, 3) := by decide +kernel
theorem dX4_sharedOut_39 : decode cX4_sharedOut 39 = .ok (.dneg, 1) := by decide +kernel
theorem dX4_sharedOut_40 : decode cX4_sharedOut 40 = .ok (.dreturn, 1) := by decide +kernel
theorem dX4_sharedOut_41 : decode cX4_sharedOut 41 = .ok (.dconst 0, 1) := by decide +kernel
theorem dX4_sharedOut_42 : decode cX4_sharedOut 42 = .ok (.dreturn, 1) := by decide +kernel
theorem dX4_sharedOut_43 : decode cX4_sharedOut 43 = .ok (.aload_n 0, 1) := by decide +kernel
theorem dX4_sharedOut_44 : decode cX4_sharedOut 44 = .ok (.getfield 31, 3) := by decide +kernel
theorem dX4_sharedOut_47 : decode cX4_sharedOut 47 = .ok (.aload_n 1, 1) := by decide +kernel
theorem dX4_sharedOut_48 : decode cX4_sharedOut 48 = .ok (.invokevirtual 171, 3) := by decide +kernel
theorem dX4_sharedOut_51 : decode cX4_sharedOut 51 = .ok (.aload_n 0, 1) := by decide +kernel
theorem dX4_sharedOut_52 : decode cX4_sharedOut 52 = .ok (.getfield 31, 3) := by decide +kernel
theorem dX4_sharedOut_55 : decode cX4_sharedOut 55 = .ok (.iload_n 2, 1) := by decide +kernel
theorem dX4_sharedOut_56 : decode cX4_sharedOut 56 = .ok (.invokevirtual 213, 3) := by decide +kernel
theorem dX4_sharedOut_59 : decode cX4_sharedOut 59 = .ok (.istore 5, 2) := by decide +kernel
theorem dX4_sharedOut_61 : decode cX4_sharedOut 61 = .ok (.aload_n 0, 1) := by decide +kernel
theorem dX4_sharedOut_62 : decode cX4_sharedOut 62 = .ok (.getfield 31, 3) := by decide +kernel
theorem dX4_sharedOut_65 : decode cX4_sharedOut 65 = .ok (.aload_n 1, 1) := by decide +kernel
theorem dX4_sharedOut_66 : decode cX4_sharedOut 66 = .ok (.invokevirtual 168, 3) := by decide +kernel
theorem dX4_sharedOut_69 : decode cX4_sharedOut 69 = .ok (.iload 5, 2) := by decide +kernel
theorem dX4_sharedOut_71 : decode cX4_sharedOut 71 = .ok (.iload_n 3, 1) := by decide +kernel
theorem dX4_sharedOut_72 : decode cX4_sharedOut 72 = .ok (.iload 4, 2) := by decide +kernel
theorem dX4_sharedOut_74 : decode cX4_sharedOut 74 = .ok (.invokevirtual 216, 3) := by decide +kernel
theorem dX4_sharedOut_77 : decode cX4_sharedOut 77 = .ok (.dreturn, 1) := by decide +kernel
theorem dX4_rowsThere_0 : decode cX4_rowsThere 0 = .ok (.iconst 0, 1) := by decide +kernel
theorem dX4_rowsThere_1 : decode cX4_rowsThere 1 = .ok (.istore_n 1, 1) := by decide +kernel
theorem dX4_rowsThere_2 : decode cX4_rowsThere 2 = .ok (.aload_n 0, 1) := by decide +kernel
theorem dX4_rowsThere_3 : decode cX4_rowsThere 3 = .ok (.getfield 11, 3) := by decide +kernel
theorem dX4_rowsThere_6 : decode cX4_rowsThere 6 = .ok (.astore_n 2, 1) := by decide +kernel
theorem dX4_rowsThere_7 : decode cX4_rowsThere 7 = .ok (.aload_n 2, 1) := by decide +kernel
theorem dX4_rowsThere_8 : decode cX4_rowsThere 8 = .ok (.arraylength, 1) := by decide +kernel
theorem dX4_rowsThere_9 : decode cX4_rowsThere 9 = .ok (.istore_n 3, 1) := by decide +kernel
theorem dX4_rowsThere_10 : decode cX4_rowsThere 10 = .ok (.iconst 0, 1) := by decide +kernel
theorem dX4_rowsThere_11 : decode cX4_rowsThere 11 = .ok (.istore 4, 2) := by decide +kernel
theorem dX4_rowsThere_13 : decode cX4_rowsThere 13 = .ok (.iload 4, 2) := by decide +kernel
theorem dX4_rowsThere_15 : decode cX4_rowsThere 15 = .ok (.iload_n 3, 1) := by decide +kernel
theorem dX4_rowsThere_16 : decode cX4_rowsThere 16 = .ok (.if_icmp .ge 31, 3) := by decide +kernel
theorem dX4_rowsThere_19 : decode cX4_rowsThere 19 = .ok (.aload_n 2, 1) := by decide +kernel
theorem dX4_rowsThere_20 : decode cX4_rowsThere 20 = .ok (.iload 4, 2) := by decide +kernel
theorem dX4_rowsThere_22 : decode cX4_rowsThere 22 = .ok (.aaload, 1) := by decide +kernel
theorem dX4_rowsThere_23 : decode cX4_rowsThere 23 = .ok (.astore 5, 2) := by decide +kernel
theorem dX4_rowsThere_25 : decode cX4_rowsThere 25 = .ok (.iload_n 1, 1) := by decide +kernel
theorem dX4_rowsThere_26 : decode cX4_rowsThere 26 = .ok (.aload 5, 2) := by decide +kernel
theorem dX4_rowsThere_28 : decode cX4_rowsThere 28 = .ok (.getfield 60, 3) := by decide +kernel
theorem dX4_rowsThere_31 : decode cX4_rowsThere 31 = .ok (.ifCond .eq 7, 3) := by decide +kernel
theorem dX4_rowsThere_34 : decode cX4_rowsThere 34 = .ok (.iconst 1, 1) := by decide +kernel
theorem dX4_rowsThere_35 : decode cX4_rowsThere 35 = .ok (.goto 4, 3) := by decide +kernel
theorem dX4_rowsThere_38 : decode cX4_rowsThere 38 = .ok (.iconst 0, 1) := by decide +kernel
theorem dX4_rowsThere_39 : decode cX4_rowsThere 39 = .ok (.iadd, 1) := by decide +kernel
theorem dX4_rowsThere_40 : decode cX4_rowsThere 40 = .ok (.istore_n 1, 1) := by decide +kernel
theorem dX4_rowsThere_41 : decode cX4_rowsThere 41 = .ok (.iinc 4 1, 3) := by decide +kernel
theorem dX4_rowsThere_44 : decode cX4_rowsThere 44 = .ok (.goto (-31), 3) := by decide +kernel
theorem dX4_rowsThere_47 : decode cX4_rowsThere 47 = .ok (.iload_n 1, 1) := by decide +kernel
theorem dX4_rowsThere_48 : decode cX4_rowsThere 48 = .ok (.ireturn, 1) := by decide +kernel
theorem dX4_placesThere_0 : decode cX4_placesThere 0 = .ok (.iconst 0, 1) := by decide +kernel
theorem dX4_placesThere_1 : decode cX4_placesThere 1 = .ok (.istore_n 1, 1) := by decide +kernel
theorem dX4_placesThere_2 : decode cX4_placesThere 2 = .ok (.aload_n 0, 1) := by decide +kernel
theorem dX4_placesThere_3 : decode cX4_placesThere 3 = .ok (.getfield 11, 3) := by decide +kernel
theorem dX4_placesThere_6 : decode cX4_placesThere 6 = .ok (.astore_n 2, 1) := by decide +kernel
theorem dX4_placesThere_7 : decode cX4_placesThere 7 = .ok (.aload_n 2, 1) := by decide +kernel
theorem dX4_placesThere_8 : decode cX4_placesThere 8 = .ok (.arraylength, 1) := by decide +kernel
theorem dX4_placesThere_9 : decode cX4_placesThere 9 = .ok (.istore_n 3, 1) := by decide +kernel
theorem dX4_placesThere_10 : decode cX4_placesThere 10 = .ok (.iconst 0, 1) := by decide +kernel
theorem dX4_placesThere_11 : decode cX4_placesThere 11 = .ok (.istore 4, 2) := by decide +kernel
theorem dX4_placesThere_13 : decode cX4_placesThere 13 = .ok (.iload 4, 2) := by decide +kernel
theorem dX4_placesThere_15 : decode cX4_placesThere 15 = .ok (.iload_n 3, 1) := by decide +kernel
theorem dX4_placesThere_16 : decode cX4_placesThere 16 = .ok (.if_icmp .ge 35, 3) := by decide +kernel
theorem dX4_placesThere_19 : decode cX4_placesThere 19 = .ok (.aload_n 2, 1) := by decide +kernel
theorem dX4_placesThere_20 : decode cX4_placesThere 20 = .ok (.iload 4, 2) := by decide +kernel
theorem dX4_placesThere_22 : decode cX4_placesThere 22 = .ok (.aaload, 1) := by decide +kernel
theorem dX4_placesThere_23 : decode cX4_placesThere 23 = .ok (.astore 5, 2) := by decide +kernel
theorem dX4_placesThere_25 : decode cX4_placesThere 25 = .ok (.iload_n 1, 1) := by decide +kernel
theorem dX4_placesThere_26 : decode cX4_placesThere 26 = .ok (.aload 5, 2) := by decide +kernel
theorem dX4_placesThere_28 : decode cX4_placesThere 28 = .ok (.getfield 60, 3) := by decide +kernel
theorem dX4_placesThere_31 : decode cX4_placesThere 31 = .ok (.ifCond .eq 11, 3) := by decide +kernel
theorem dX4_placesThere_34 : decode cX4_placesThere 34 = .ok (.aload 5, 2) := by decide +kernel
theorem dX4_placesThere_36 : decode cX4_placesThere 36 = .ok (.getfield 64, 3) := by decide +kernel
theorem dX4_placesThere_39 : decode cX4_placesThere 39 = .ok (.goto 4, 3) := by decide +kernel
theorem dX4_placesThere_42 : decode cX4_placesThere 42 = .ok (.iconst 0, 1) := by decide +kernel
theorem dX4_placesThere_43 : decode cX4_placesThere 43 = .ok (.iadd, 1) := by decide +kernel
theorem dX4_placesThere_44 : decode cX4_placesThere 44 = .ok (.istore_n 1, 1) := by decide +kernel
theorem dX4_placesThere_45 : decode cX4_placesThere 45 = .ok (.iinc 4 1, 3) := by decide +kernel
theorem dX4_placesThere_48 : decode cX4_placesThere 48 = .ok (.goto (-35), 3) := by decide +kernel
theorem dX4_placesThere_51 : decode cX4_placesThere 51 = .ok (.iload_n 1, 1) := by decide +kernel
theorem dX4_placesThere_52 : decode cX4_placesThere 52 = .ok (.ireturn, 1) := by decide +kernel
theorem dX4_keepersThere_0 : decode cX4_keepersThere 0 = .ok (.iconst 0, 1) := by decide +kernel
theorem dX4_keepersThere_1 : decode cX4_keepersThere 1 = .ok (.istore_n 2, 1) := by decide +kernel
theorem dX4_keepersThere_2 : decode cX4_keepersThere 2 = .ok (.aload_n 0, 1) := by decide +kernel
theorem dX4_keepersThere_3 : decode cX4_keepersThere 3 = .ok (.getfield 17, 3) := by decide +kernel
theorem dX4_keepersThere_6 : decode cX4_keepersThere 6 = .ok (.astore_n 3, 1) := by decide +kernel
theorem dX4_keepersThere_7 : decode cX4_keepersThere 7 = .ok (.aload_n 3, 1) := by decide +kernel
theorem dX4_keepersThere_8 : decode cX4_keepersThere 8 = .ok (.arraylength, 1) := by decide +kernel
theorem dX4_keepersThere_9 : decode cX4_keepersThere 9 = .ok (.istore 4, 2) := by decide +kernel
theorem dX4_keepersThere_11 : decode cX4_keepersThere 11 = .ok (.iconst 0, 1) := by decide +kernel
theorem dX4_keepersThere_12 : decode cX4_keepersThere 12 = .ok (.istore 5, 2) := by decide +kernel
theorem dX4_keepersThere_14 : decode cX4_keepersThere 14 = .ok (.iload 5, 2) := by decide +kernel
theorem dX4_keepersThere_16 : decode cX4_keepersThere 16 = .ok (.iload 4, 2) := by decide +kernel
theorem dX4_keepersThere_18 : decode cX4_keepersThere 18 = .ok (.if_icmp .ge 39, 3) := by decide +kernel
theorem dX4_keepersThere_21 : decode cX4_keepersThere 21 = .ok (.aload_n 3, 1) := by decide +kernel
theorem dX4_keepersThere_22 : decode cX4_keepersThere 22 = .ok (.iload 5, 2) := by decide +kernel
theorem dX4_keepersThere_24 : decode cX4_keepersThere 24 = .ok (.aaload, 1) := by decide +kernel
theorem dX4_keepersThere_25 : decode cX4_keepersThere 25 = .ok (.astore 6, 2) := by decide +kernel
theorem dX4_keepersThere_27 : decode cX4_keepersThere 27 = .ok (.aload 6, 2) := by decide +kernel
theorem dX4_keepersThere_29 : decode cX4_keepersThere 29 = .ok (.getfield 118, 3) := by decide +kernel
theorem dX4_keepersThere_32 : decode cX4_keepersThere 32 = .ok (.ifCond .eq 19, 3) := by decide +kernel
theorem dX4_keepersThere_35 : decode cX4_keepersThere 35 = .ok (.iload_n 1, 1) := by decide +kernel
theorem dX4_keepersThere_36 : decode cX4_keepersThere 36 = .ok (.ifCond .eq 12, 3) := by decide +kernel
theorem dX4_keepersThere_39 : decode cX4_keepersThere 39 = .ok (.aload 6, 2) := by decide +kernel
theorem dX4_keepersThere_41 : decode cX4_keepersThere 41 = .ok (.invokevirtual 148, 3) := by decide +kernel
theorem dX4_keepersThere_44 : decode cX4_keepersThere 44 = .ok (.iconst 3, 1) := by decide +kernel
theorem dX4_keepersThere_45 : decode cX4_keepersThere 45 = .ok (.if_icmp .ne 6, 3) := by decide +kernel
theorem dX4_keepersThere_48 : decode cX4_keepersThere 48 = .ok (.iinc 2 1, 3) := by decide +kernel
theorem dX4_keepersThere_51 : decode cX4_keepersThere 51 = .ok (.iinc 5 1, 3) := by decide +kernel
theorem dX4_keepersThere_54 : decode cX4_keepersThere 54 = .ok (.goto (-40), 3) := by decide +kernel
theorem dX4_keepersThere_57 : decode cX4_keepersThere 57 = .ok (.iload_n 2, 1) := by decide +kernel
theorem dX4_keepersThere_58 : decode cX4_keepersThere 58 = .ok (.ireturn, 1) := by decide +kernel
theorem dX4_endless_0 : decode cX4_endless 0 = .ok (.ldc2_w 220, 3) := by decide +kernel
theorem dX4_endless_3 : decode cX4_endless 3 = .ok (.dreturn, 1) := by decide +kernel
theorem dX4_greatest_0 : decode cX4_greatest 0 = .ok (.iload_n 0, 1) := by decide +kernel
theorem dX4_greatest_1 : decode cX4_greatest 1 = .ok (.ifCond .eq 9, 3) := by decide +kernel
theorem dX4_greatest_4 : decode cX4_greatest 4 = .ok (.ldc2_w 222, 3) := by decide +kernel
theorem dX4_greatest_7 : decode cX4_greatest 7 = .ok (.goto 6, 3) := by decide +kernel
theorem dX4_greatest_10 : decode cX4_greatest 10 = .ok (.ldc2_w 224, 3) := by decide +kernel
theorem dX4_greatest_13 : decode cX4_greatest 13 = .ok (.dreturn, 1) := by decide +kernel
theorem dX4_power_0 : decode cX4_power 0 = .ok (.iload_n 0, 1) := by decide +kernel
theorem dX4_power_1 : decode cX4_power 1 = .ok (.ifCond .ge 9, 3) := by decide +kernel
theorem dX4_power_4 : decode cX4_power 4 = .ok (.ldc2_w 226, 3) := by decide +kernel
theorem dX4_power_7 : decode cX4_power 7 = .ok (.goto 6, 3) := by decide +kernel
theorem dX4_power_10 : decode cX4_power 10 = .ok (.ldc2_w 228, 3) := by decide +kernel
theorem dX4_power_13 : decode cX4_power 13 = .ok (.dstore_n 1, 1) := by decide +kernel
theorem dX4_power_14 : decode cX4_power 14 = .ok (.dconst 1, 1) := by decide +kernel
theorem dX4_power_15 : decode cX4_power 15 = .ok (.dstore_n 3, 1) := by decide +kernel
theorem dX4_power_16 : decode cX4_power 16 = .ok (.iload_n 0, 1) := by decide +kernel
theorem dX4_power_17 : decode cX4_power 17 = .ok (.invokestatic 120, 3) := by decide +kernel
theorem dX4_power_20 : decode cX4_power 20 = .ok (.istore 5, 2) := by decide +kernel
theorem dX4_power_22 : decode cX4_power 22 = .ok (.iload 5, 2) := by decide +kernel
theorem dX4_power_24 : decode cX4_power 24 = .ok (.ifCond .le 28, 3) := by decide +kernel
theorem dX4_power_27 : decode cX4_power 27 = .ok (.iload 5, 2) := by decide +kernel
theorem dX4_power_29 : decode cX4_power 29 = .ok (.iconst 1, 1) := by decide +kernel
theorem dX4_power_30 : decode cX4_power 30 = .ok (.iand, 1) := by decide +kernel
theorem dX4_power_31 : decode cX4_power 31 = .ok (.iconst 1, 1) := by decide +kernel
theorem dX4_power_32 : decode cX4_power 32 = .ok (.if_icmp .ne 7, 3) := by decide +kernel
theorem dX4_power_35 : decode cX4_power 35 = .ok (.dload_n 3, 1) := by decide +kernel
theorem dX4_power_36 : decode cX4_power 36 = .ok (.dload_n 1, 1) := by decide +kernel
theorem dX4_power_37 : decode cX4_power 37 = .ok (.dmul, 1) := by decide +kernel
theorem dX4_power_38 : decode cX4_power 38 = .ok (.dstore_n 3, 1) := by decide +kernel
theorem dX4_power_39 : decode cX4_power 39 = .ok (.dload_n 1, 1) := by decide +kernel
theorem dX4_power_40 : decode cX4_power 40 = .ok (.dload_n 1, 1) := by decide +kernel
theorem dX4_power_41 : decode cX4_power 41 = .ok (.dmul, 1) := by decide +kernel
theorem dX4_power_42 : decode cX4_power 42 = .ok (.dstore_n 1, 1) := by decide +kernel
theorem dX4_power_43 : decode cX4_power 43 = .ok (.iload 5, 2) := by decide +kernel
theorem dX4_power_45 : decode cX4_power 45 = .ok (.iconst 1, 1) := by decide +kernel
theorem dX4_power_46 : decode cX4_power 46 = .ok (.ishr, 1) := by decide +kernel
theorem dX4_power_47 : decode cX4_power 47 = .ok (.istore 5, 2) := by decide +kernel
theorem dX4_power_49 : decode cX4_power 49 = .ok (.goto (-27), 3) := by decide +kernel
theorem dX4_power_52 : decode cX4_power 52 = .ok (.dload_n 3, 1) := by decide +kernel
theorem dX4_power_53 : decode cX4_power 53 = .ok (.dreturn, 1) := by decide +kernel
theorem dX4_bitsIn_0 : decode cX4_bitsIn 0 = .ok (.bipush 64, 2) := by decide +kernel
theorem dX4_bitsIn_2 : decode cX4_bitsIn 2 = .ok (.lload_n 0, 1) := by decide +kernel
theorem dX4_bitsIn_3 : decode cX4_bitsIn 3 = .ok (.invokestatic 230, 3) := by decide +kernel
theorem dX4_bitsIn_6 : decode cX4_bitsIn 6 = .ok (.isub, 1) := by decide +kernel
theorem dX4_bitsIn_7 : decode cX4_bitsIn 7 = .ok (.ireturn, 1) := by decide +kernel
theorem dX4_stepsAway_0 : decode cX4_stepsAway 0 = .ok (.iload 5, 2) := by decide +kernel
theorem dX4_stepsAway_2 : decode cX4_stepsAway 2 = .ok (.tableswitch 90 0 3 #[30, 90, 52, 71], 30) := by decide +kernel
theorem dX4_stepsAway_32 : decode cX4_stepsAway 32 = .ok (.iload_n 2, 1) := by decide +kernel
theorem dX4_stepsAway_33 : decode cX4_stepsAway 33 = .ok (.ifCond .eq 19, 3) := by decide +kernel
theorem dX4_stepsAway_36 : decode cX4_stepsAway 36 = .ok (.iload_n 3, 1) := by decide +kernel
theorem dX4_stepsAway_37 : decode cX4_stepsAway 37 = .ok (.ifCond .ne 11, 3) := by decide +kernel
theorem dX4_stepsAway_40 : decode cX4_stepsAway 40 = .ok (.lload_n 0, 1) := by decide +kernel
theorem dX4_stepsAway_41 : decode cX4_stepsAway 41 = .ok (.lconst 1, 1) := by decide +kernel
theorem dX4_stepsAway_42 : decode cX4_stepsAway 42 = .ok (.land, 1) := by decide +kernel
theorem dX4_stepsAway_43 : decode cX4_stepsAway 43 = .ok (.lconst 1, 1) := by decide +kernel
theorem dX4_stepsAway_44 : decode cX4_stepsAway 44 = .ok (.lcmp, 1) := by decide +kernel
theorem dX4_stepsAway_45 : decode cX4_stepsAway 45 = .ok (.ifCond .ne 7, 3) := by decide +kernel
theorem dX4_stepsAway_48 : decode cX4_stepsAway 48 = .ok (.iconst 1, 1) := by decide +kernel
theorem dX4_stepsAway_49 : decode cX4_stepsAway 49 = .ok (.goto 4, 3) := by decide +kernel
theorem dX4_stepsAway_52 : decode cX4_stepsAway 52 = .ok (.iconst 0, 1) := by decide +kernel
theorem dX4_stepsAway_53 : decode cX4_stepsAway 53 = .ok (.ireturn, 1) := by decide +kernel
theorem dX4_stepsAway_54 : decode cX4_stepsAway 54 = .ok (.iload 4, 2) := by decide +kernel
theorem dX4_stepsAway_56 : decode cX4_stepsAway 56 = .ok (.ifCond .ne 15, 3) := by decide +kernel
theorem dX4_stepsAway_59 : decode cX4_stepsAway 59 = .ok (.iload_n 2, 1) := by decide +kernel
theorem dX4_stepsAway_60 : decode cX4_stepsAway 60 = .ok (.ifCond .ne 7, 3) := by decide +kernel
theorem dX4_stepsAway_63 : decode cX4_stepsAway 63 = .ok (.iload_n 3, 1) := by decide +kernel
theorem dX4_stepsAway_64 : decode cX4_stepsAway 64 = .ok (.ifCond .eq 7, 3) := by decide +kernel
theorem dX4_stepsAway_67 : decode cX4_stepsAway 67 = .ok (.iconst 1, 1) := by decide +kernel
theorem dX4_stepsAway_68 : decode cX4_stepsAway 68 = .ok (.goto 4, 3) := by decide +kernel
theorem dX4_stepsAway_71 : decode cX4_stepsAway 71 = .ok (.iconst 0, 1) := by decide +kernel
theorem dX4_stepsAway_72 : decode cX4_stepsAway 72 = .ok (.ireturn, 1) := by decide +kernel
theorem dX4_stepsAway_73 : decode cX4_stepsAway 73 = .ok (.iload 4, 2) := by decide +kernel
theorem dX4_stepsAway_75 : decode cX4_stepsAway 75 = .ok (.ifCond .eq 15, 3) := by decide +kernel
theorem dX4_stepsAway_78 : decode cX4_stepsAway 78 = .ok (.iload_n 2, 1) := by decide +kernel
theorem dX4_stepsAway_79 : decode cX4_stepsAway 79 = .ok (.ifCond .ne 7, 3) := by decide +kernel
theorem dX4_stepsAway_82 : decode cX4_stepsAway 82 = .ok (.iload_n 3, 1) := by decide +kernel
theorem dX4_stepsAway_83 : decode cX4_stepsAway 83 = .ok (.ifCond .eq 7, 3) := by decide +kernel
theorem dX4_stepsAway_86 : decode cX4_stepsAway 86 = .ok (.iconst 1, 1) := by decide +kernel
theorem dX4_stepsAway_87 : decode cX4_stepsAway 87 = .ok (.goto 4, 3) := by decide +kernel
theorem dX4_stepsAway_90 : decode cX4_stepsAway 90 = .ok (.iconst 0, 1) := by decide +kernel
theorem dX4_stepsAway_91 : decode cX4_stepsAway 91 = .ok (.ireturn, 1) := by decide +kernel
theorem dX4_stepsAway_92 : decode cX4_stepsAway 92 = .ok (.iconst 0, 1) := by decide +kernel
theorem dX4_stepsAway_93 : decode cX4_stepsAway 93 = .ok (.ireturn, 1) := by decide +kernel
theorem dX4_finished_0 : decode cX4_finished 0 = .ok (.lload_n 0, 1) := by decide +kernel
theorem dX4_finished_1 : decode cX4_finished 1 = .ok (.lconst 0, 1) := by decide +kernel
theorem dX4_finished_2 : decode cX4_finished 2 = .ok (.lcmp, 1) := by decide +kernel
theorem dX4_finished_3 : decode cX4_finished 3 = .ok (.ifCond .ne 5, 3) := by decide +kernel
theorem dX4_finished_6 : decode cX4_finished 6 = .ok (.dconst 0, 1) := by decide +kernel
theorem dX4_finished_7 : decode cX4_finished 7 = .ok (.dreturn, 1) := by decide +kernel
theorem dX4_finished_8 : decode cX4_finished 8 = .ok (.iload 5, 2) := by decide +kernel
theorem dX4_finished_10 : decode cX4_finished 10 = .ok (.ifCond .eq 9, 3) := by decide +kernel
theorem dX4_finished_13 : decode cX4_finished 13 = .ok (.sipush 128, 3) := by decide +kernel
theorem dX4_finished_16 : decode cX4_finished 16 = .ok (.goto 6, 3) := by decide +kernel
theorem dX4_finished_19 : decode cX4_finished 19 = .ok (.sipush 1024, 3) := by decide +kernel
theorem dX4_finished_22 : decode cX4_finished 22 = .ok (.istore 6, 2) := by decide +kernel
theorem dX4_finished_24 : decode cX4_finished 24 = .ok (.lload_n 0, 1) := by decide +kernel
theorem dX4_finished_25 : decode cX4_finished 25 = .ok (.invokestatic 236, 3) := by decide +kernel
theorem dX4_finished_28 : decode cX4_finished 28 = .ok (.iload_n 2, 1) := by decide +kernel
theorem dX4_finished_29 : decode cX4_finished 29 = .ok (.iadd, 1) := by decide +kernel
theorem dX4_finished_30 : decode cX4_finished 30 = .ok (.iload 6, 2) := by decide +kernel
theorem dX4_finished_32 : decode cX4_finished 32 = .ok (.if_icmp .le 50, 3) := by decide +kernel
theorem dX4_finished_35 : decode cX4_finished 35 = .ok (.iload 4, 2) := by decide +kernel
theorem dX4_finished_37 : decode cX4_finished 37 = .ok (.ifCond .eq 17, 3) := by decide +kernel
theorem dX4_finished_40 : decode cX4_finished 40 = .ok (.iload 4, 2) := by decide +kernel
theorem dX4_finished_42 : decode cX4_finished 42 = .ok (.iload_n 3, 1) := by decide +kernel
theorem dX4_finished_43 : decode cX4_finished 43 = .ok (.ifCond .eq 7, 3) := by decide +kernel
theorem dX4_finished_46 : decode cX4_finished 46 = .ok (.iconst 3, 1) := by decide +kernel
theorem dX4_finished_47 : decode cX4_finished 47 = .ok (.goto 4, 3) := by decide +kernel
theorem dX4_finished_50 : decode cX4_finished 50 = .ok (.iconst 2, 1) := by decide +kernel
theorem dX4_finished_51 : decode cX4_finished 51 = .ok (.if_icmp .ne 7, 3) := by decide +kernel
theorem dX4_finished_54 : decode cX4_finished 54 = .ok (.iconst 1, 1) := by decide +kernel
theorem dX4_finished_55 : decode cX4_finished 55 = .ok (.goto 4, 3) := by decide +kernel
theorem dX4_finished_58 : decode cX4_finished 58 = .ok (.iconst 0, 1) := by decide +kernel
theorem dX4_finished_59 : decode cX4_finished 59 = .ok (.istore 9, 2) := by decide +kernel
theorem dX4_finished_61 : decode cX4_finished 61 = .ok (.iload 9, 2) := by decide +kernel
theorem dX4_finished_63 : decode cX4_finished 63 = .ok (.ifCond .eq 9, 3) := by decide +kernel
theorem dX4_finished_66 : decode cX4_finished 66 = .ok (.invokestatic 164, 3) := by decide +kernel
theorem dX4_finished_69 : decode cX4_finished 69 = .ok (.goto 8, 3) := by decide +kernel
theorem dX4_finished_72 : decode cX4_finished 72 = .ok (.iload 5, 2) := by decide +kernel
theorem dX4_finished_74 : decode cX4_finished 74 = .ok (.invokestatic 239, 3) := by decide +kernel
theorem dX4_finished_77 : decode cX4_finished 77 = .ok (.dstore 7, 2) := by decide +kernel
theorem dX4_finished_79 : decode cX4_finished 79 = .ok (.goto 12, 3) := by decide +kernel
theorem dX4_finished_82 : decode cX4_finished 82 = .ok (.lload_n 0, 1) := by decide +kernel
theorem dX4_finished_83 : decode cX4_finished 83 = .ok (.l2d, 1) := by decide +kernel
theorem dX4_finished_84 : decode cX4_finished 84 = .ok (.iload_n 2, 1) := by decide +kernel
theorem dX4_finished_85 : decode cX4_finished 85 = .ok (.invokestatic 243, 3) := by decide +kernel
theorem dX4_finished_88 : decode cX4_finished 88 = .ok (.dmul, 1) := by decide +kernel
theorem dX4_finished_89 : decode cX4_finished 89 = .ok (.dstore 7, 2) := by decide +kernel
theorem dX4_finished_91 : decode cX4_finished 91 = .ok (.iload_n 3, 1) := by decide +kernel
theorem dX4_finished_92 : decode cX4_finished 92 = .ok (.ifCond .eq 9, 3) := by decide +kernel
theorem dX4_finished_95 : decode cX4_finished 95 = .ok (.dload 7, 2) := by decide +kernel
theorem dX4_finished_97 : decode cX4_finished 97 = .ok (.dneg, 1) := by decide +kernel
theorem dX4_finished_98 : decode cX4_finished 98 = .ok (.goto 5, 3) := by decide +kernel
theorem dX4_finished_101 : decode cX4_finished 101 = .ok (.dload 7, 2) := by decide +kernel
theorem dX4_finished_103 : decode cX4_finished 103 = .ok (.dreturn, 1) := by decide +kernel
theorem dX5_init_0 : decode cX5_init 0 = .ok (.aload_n 0, 1) := by decide +kernel
theorem dX5_init_1 : decode cX5_init 1 = .ok (.invokespecial 1, 3) := by decide +kernel
theorem dX5_init_4 : decode cX5_init 4 = .ok (.aload_n 0, 1) := by decide +kernel
theorem dX5_init_5 : decode cX5_init 5 = .ok (.bipush 12, 2) := by decide +kernel
theorem dX5_init_7 : decode cX5_init 7 = .ok (.newarray .int, 2) := by decide +kernel
theorem dX5_init_9 : decode cX5_init 9 = .ok (.putfield 7, 3) := by decide +kernel
theorem dX5_init_12 : decode cX5_init 12 = .ok (.aload_n 0, 1) := by decide +kernel
theorem dX5_init_13 : decode cX5_init 13 = .ok (.bipush 12, 2) := by decide +kernel
theorem dX5_init_15 : decode cX5_init 15 = .ok (.newarray .int, 2) := by decide +kernel
theorem dX5_init_17 : decode cX5_init 17 = .ok (.putfield 13, 3) := by decide +kernel
theorem dX5_init_20 : decode cX5_init 20 = .ok (.aload_n 0, 1) := by decide +kernel
theorem dX5_init_21 : decode cX5_init 21 = .ok (.sipush 480, 3) := by decide +kernel
theorem dX5_init_24 : decode cX5_init 24 = .ok (.newarray .long, 2) := by decide +kernel
theorem dX5_init_26 : decode cX5_init 26 = .ok (.putfield 16, 3) := by decide +kernel
theorem dX5_init_29 : decode cX5_init 29 = .ok (.aload_n 0, 1) := by decide +kernel
theorem dX5_init_30 : decode cX5_init 30 = .ok (.sipush 480, 3) := by decide +kernel
theorem dX5_init_33 : decode cX5_init 33 = .ok (.newarray .double, 2) := by decide +kernel
theorem dX5_init_35 : decode cX5_init 35 = .ok (.putfield 20, 3) := by decide +kernel
theorem dX5_init_38 : decode cX5_init 38 = .ok (.aload_n 0, 1) := by decide +kernel
theorem dX5_init_39 : decode cX5_init 39 = .ok (.sipush 480, 3) := by decide +kernel
theorem dX5_init_42 : decode cX5_init 42 = .ok (.newarray .int, 2) := by decide +kernel
theorem dX5_init_44 : decode cX5_init 44 = .ok (.putfield 24, 3) := by decide +kernel
theorem dX5_init_47 : decode cX5_init 47 = .ok (.aload_n 0, 1) := by decide +kernel
theorem dX5_init_48 : decode cX5_init 48 = .ok (.bipush 7, 2) := by decide +kernel
theorem dX5_init_50 : decode cX5_init 50 = .ok (.newarray .int, 2) := by decide +kernel
theorem dX5_init_52 : decode cX5_init 52 = .ok (.putfield 27, 3) := by decide +kernel
theorem dX5_init_55 : decode cX5_init 55 = .ok (.aload_n 0, 1) := by decide +kernel
theorem dX5_init_56 : decode cX5_init 56 = .ok (.sipush 1064, 3) := by decide +kernel
theorem dX5_init_59 : decode cX5_init 59 = .ok (.newarray .int, 2) := by decide +kernel
theorem dX5_init_61 : decode cX5_init 61 = .ok (.putfield 30, 3) := by decide +kernel
theorem dX5_init_64 : decode cX5_init 64 = .ok (.aload_n 0, 1) := by decide +kernel
theorem dX5_init_65 : decode cX5_init 65 = .ok (.bipush 21, 2) := by decide +kernel
theorem dX5_init_67 : decode cX5_init 67 = .ok (.newarray .int, 2) := by decide +kernel
theorem dX5_init_69 : decode cX5_init 69 = .ok (.putfield 33, 3) := by decide +kernel
theorem dX5_init_72 : decode cX5_init 72 = .ok (.aload_n 0, 1) := by decide +kernel
theorem dX5_init_73 : decode cX5_init 73 = .ok (.bipush 12, 2) := by decide +kernel
theorem dX5_init_75 : decode cX5_init 75 = .ok (.newarray .int, 2) := by decide +kernel
theorem dX5_init_77 : decode cX5_init 77 = .ok (.putfield 36, 3) := by decide +kernel
theorem dX5_init_80 : decode cX5_init 80 = .ok (.aload_n 0, 1) := by decide +kernel
theorem dX5_init_81 : decode cX5_init 81 = .ok (.bipush 12, 2) := by decide +kernel
theorem dX5_init_83 : decode cX5_init 83 = .ok (.newarray .int, 2) := by decide +kernel
theorem dX5_init_85 : decode cX5_init 85 = .ok (.putfield 39, 3) := by decide +kernel
theorem dX5_init_88 : decode cX5_init 88 = .ok (.aload_n 0, 1) := by decide +kernel
theorem dX5_init_89 : decode cX5_init 89 = .ok (.sipush 1824, 3) := by decide +kernel
theorem dX5_init_92 : decode cX5_init 92 = .ok (.newarray .int, 2) := by decide +kernel
theorem dX5_init_94 : decode cX5_init 94 = .ok (.putfield 42, 3) := by decide +kernel
theorem dX5_init_97 : decode cX5_init 97 = .ok (.aload_n 0, 1) := by decide +kernel
theorem dX5_init_98 : decode cX5_init 98 = .ok (.bipush 36, 2) := by decide +kernel
theorem dX5_init_100 : decode cX5_init 100 = .ok (.newarray .int, 2) := by decide +kernel
theorem dX5_init_102 : decode cX5_init 102 = .ok (.putfield 45, 3) := by decide +kernel
theorem dX5_init_105 : decode cX5_init 105 = .ok (.aload_n 0, 1) := by decide +kernel
theorem dX5_init_106 : decode cX5_init 106 = .ok (.sipush 152, 3) := by decide +kernel
theorem dX5_init_109 : decode cX5_init 109 = .ok (.newarray .int, 2) := by decide +kernel
theorem dX5_init_111 : decode cX5_init 111 = .ok (.putfield 48, 3) := by decide +kernel
theorem dX5_init_114 : decode cX5_init 114 = .ok (.aload_n 0, 1) := by decide +kernel
theorem dX5_init_115 : decode cX5_init 115 = .ok (.sipush 152, 3) := by decide +kernel
theorem dX5_init_118 : decode cX5_init 118 = .ok (.newarray .int, 2) := by decide +kernel
theorem dX5_init_120 : decode cX5_init 120 = .ok (.putfield 51, 3) := by decide +kernel
theorem dX5_init_123 : decode cX5_init 123 = .ok (.iconst 0, 1) := by decide +kernel

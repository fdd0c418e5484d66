theorem dX5_init_124 : decode cX5_init 124 = .ok (.istore_n 1, 1) := by decide +kernel
theorem dX5_init_125 : decode cX5_init 125 = .ok (.iload_n 1, 1) := by decide +kernel
theorem dX5_init_126 : decode cX5_init 126 = .ok (.bipush 12, 2) := by decide +kernel
theorem dX5_init_128 : decode cX5_init 128 = .ok (.if_icmp .ge 16, 3) := by decide +kernel
theorem dX5_init_131 : decode cX5_init 131 = .ok (.aload_n 0, 1) := by decide +kernel
theorem dX5_init_132 : decode cX5_init 132 = .ok (.getfield 7, 3) := by decide +kernel
theorem dX5_init_135 : decode cX5_init 135 = .ok (.iload_n 1, 1) := by decide +kernel
theorem dX5_init_136 : decode cX5_init 136 = .ok (.iconst (-1), 1) := by decide +kernel
theorem dX5_init_137 : decode cX5_init 137 = .ok (.iastore, 1) := by decide +kernel
theorem dX5_init_138 : decode cX5_init 138 = .ok (.iinc 1 1, 3) := by decide +kernel
theorem dX5_init_141 : decode cX5_init 141 = .ok (.goto (-16), 3) := by decide +kernel
theorem dX5_init_144 : decode cX5_init 144 = .ok (.iconst 0, 1) := by decide +kernel
theorem dX5_init_145 : decode cX5_init 145 = .ok (.istore_n 1, 1) := by decide +kernel
theorem dX5_init_146 : decode cX5_init 146 = .ok (.iload_n 1, 1) := by decide +kernel
theorem dX5_init_147 : decode cX5_init 147 = .ok (.bipush 7, 2) := by decide +kernel
theorem dX5_init_149 : decode cX5_init 149 = .ok (.if_icmp .ge 16, 3) := by decide +kernel
theorem dX5_init_152 : decode cX5_init 152 = .ok (.aload_n 0, 1) := by decide +kernel
theorem dX5_init_153 : decode cX5_init 153 = .ok (.getfield 27, 3) := by decide +kernel
theorem dX5_init_156 : decode cX5_init 156 = .ok (.iload_n 1, 1) := by decide +kernel
theorem dX5_init_157 : decode cX5_init 157 = .ok (.iconst (-1), 1) := by decide +kernel
theorem dX5_init_158 : decode cX5_init 158 = .ok (.iastore, 1) := by decide +kernel
theorem dX5_init_159 : decode cX5_init 159 = .ok (.iinc 1 1, 3) := by decide +kernel
theorem dX5_init_162 : decode cX5_init 162 = .ok (.goto (-16), 3) := by decide +kernel
theorem dX5_init_165 : decode cX5_init 165 = .ok (.return_, 1) := by decide +kernel
theorem dX5_in_0 : decode cX5_in 0 = .ok (.lload_n 0, 1) := by decide +kernel
theorem dX5_in_1 : decode cX5_in 1 = .ok (.lload_n 2, 1) := by decide +kernel
theorem dX5_in_2 : decode cX5_in 2 = .ok (.lcmp, 1) := by decide +kernel
theorem dX5_in_3 : decode cX5_in 3 = .ok (.ifCond .lt 14, 3) := by decide +kernel
theorem dX5_in_6 : decode cX5_in 6 = .ok (.lload_n 0, 1) := by decide +kernel
theorem dX5_in_7 : decode cX5_in 7 = .ok (.lload 4, 2) := by decide +kernel
theorem dX5_in_9 : decode cX5_in 9 = .ok (.lcmp, 1) := by decide +kernel
theorem dX5_in_10 : decode cX5_in 10 = .ok (.ifCond .gt 7, 3) := by decide +kernel
theorem dX5_in_13 : decode cX5_in 13 = .ok (.iconst 1, 1) := by decide +kernel
theorem dX5_in_14 : decode cX5_in 14 = .ok (.goto 4, 3) := by decide +kernel
theorem dX5_in_17 : decode cX5_in 17 = .ok (.iconst 0, 1) := by decide +kernel
theorem dX5_in_18 : decode cX5_in 18 = .ok (.ireturn, 1) := by decide +kernel
theorem dX5_isRow_0 : decode cX5_isRow 0 = .ok (.iload_n 0, 1) := by decide +kernel
theorem dX5_isRow_1 : decode cX5_isRow 1 = .ok (.i2l, 1) := by decide +kernel
theorem dX5_isRow_2 : decode cX5_isRow 2 = .ok (.lconst 0, 1) := by decide +kernel
theorem dX5_isRow_3 : decode cX5_isRow 3 = .ok (.ldc2_w 58, 3) := by decide +kernel
theorem dX5_isRow_6 : decode cX5_isRow 6 = .ok (.invokestatic 60, 3) := by decide +kernel
theorem dX5_isRow_9 : decode cX5_isRow 9 = .ok (.ireturn, 1) := by decide +kernel
theorem dX5_isThere_0 : decode cX5_isThere 0 = .ok (.aload_n 0, 1) := by decide +kernel
theorem dX5_isThere_1 : decode cX5_isThere 1 = .ok (.getfield 7, 3) := by decide +kernel
theorem dX5_isThere_4 : decode cX5_isThere 4 = .ok (.iload_n 1, 1) := by decide +kernel
theorem dX5_isThere_5 : decode cX5_isThere 5 = .ok (.iaload, 1) := by decide +kernel
theorem dX5_isThere_6 : decode cX5_isThere 6 = .ok (.iconst (-1), 1) := by decide +kernel
theorem dX5_isThere_7 : decode cX5_isThere 7 = .ok (.if_icmp .eq 7, 3) := by decide +kernel
theorem dX5_isThere_10 : decode cX5_isThere 10 = .ok (.iconst 1, 1) := by decide +kernel
theorem dX5_isThere_11 : decode cX5_isThere 11 = .ok (.goto 4, 3) := by decide +kernel
theorem dX5_isThere_14 : decode cX5_isThere 14 = .ok (.iconst 0, 1) := by decide +kernel
theorem dX5_isThere_15 : decode cX5_isThere 15 = .ok (.ireturn, 1) := by decide +kernel
theorem dX5_isReal_0 : decode cX5_isReal 0 = .ok (.aload_n 0, 1) := by decide +kernel
theorem dX5_isReal_1 : decode cX5_isReal 1 = .ok (.getfield 7, 3) := by decide +kernel
theorem dX5_isReal_4 : decode cX5_isReal 4 = .ok (.iload_n 1, 1) := by decide +kernel
theorem dX5_isReal_5 : decode cX5_isReal 5 = .ok (.iaload, 1) := by decide +kernel
theorem dX5_isReal_6 : decode cX5_isReal 6 = .ok (.iconst 4, 1) := by decide +kernel
theorem dX5_isReal_7 : decode cX5_isReal 7 = .ok (.if_icmp .lt 7, 3) := by decide +kernel
theorem dX5_isReal_10 : decode cX5_isReal 10 = .ok (.iconst 1, 1) := by decide +kernel
theorem dX5_isReal_11 : decode cX5_isReal 11 = .ok (.goto 4, 3) := by decide +kernel
theorem dX5_isReal_14 : decode cX5_isReal 14 = .ok (.iconst 0, 1) := by decide +kernel
theorem dX5_isReal_15 : decode cX5_isReal 15 = .ok (.ireturn, 1) := by decide +kernel
theorem dX5_isPlace_0 : decode cX5_isPlace 0 = .ok (.iload_n 2, 1) := by decide +kernel
theorem dX5_isPlace_1 : decode cX5_isPlace 1 = .ok (.i2l, 1) := by decide +kernel
theorem dX5_isPlace_2 : decode cX5_isPlace 2 = .ok (.lconst 0, 1) := by decide +kernel
theorem dX5_isPlace_3 : decode cX5_isPlace 3 = .ok (.aload_n 0, 1) := by decide +kernel
theorem dX5_isPlace_4 : decode cX5_isPlace 4 = .ok (.getfield 13, 3) := by decide +kernel
theorem dX5_isPlace_7 : decode cX5_isPlace 7 = .ok (.iload_n 1, 1) := by decide +kernel
theorem dX5_isPlace_8 : decode cX5_isPlace 8 = .ok (.iaload, 1) := by decide +kernel
theorem dX5_isPlace_9 : decode cX5_isPlace 9 = .ok (.iconst 1, 1) := by decide +kernel
theorem dX5_isPlace_10 : decode cX5_isPlace 10 = .ok (.isub, 1) := by decide +kernel
theorem dX5_isPlace_11 : decode cX5_isPlace 11 = .ok (.i2l, 1) := by decide +kernel
theorem dX5_isPlace_12 : decode cX5_isPlace 12 = .ok (.invokestatic 60, 3) := by decide +kernel
theorem dX5_isPlace_15 : decode cX5_isPlace 15 = .ok (.ireturn, 1) := by decide +kernel
theorem dX5_arePlaces_0 : decode cX5_arePlaces 0 = .ok (.iload_n 3, 1) := by decide +kernel
theorem dX5_arePlaces_1 : decode cX5_arePlaces 1 = .ok (.i2l, 1) := by decide +kernel
theorem dX5_arePlaces_2 : decode cX5_arePlaces 2 = .ok (.lconst 0, 1) := by decide +kernel
theorem dX5_arePlaces_3 : decode cX5_arePlaces 3 = .ok (.aload_n 0, 1) := by decide +kernel
theorem dX5_arePlaces_4 : decode cX5_arePlaces 4 = .ok (.getfield 13, 3) := by decide +kernel
theorem dX5_arePlaces_7 : decode cX5_arePlaces 7 = .ok (.iload_n 1, 1) := by decide +kernel
theorem dX5_arePlaces_8 : decode cX5_arePlaces 8 = .ok (.iaload, 1) := by decide +kernel
theorem dX5_arePlaces_9 : decode cX5_arePlaces 9 = .ok (.i2l, 1) := by decide +kernel
theorem dX5_arePlaces_10 : decode cX5_arePlaces 10 = .ok (.invokestatic 60, 3) := by decide +kernel
theorem dX5_arePlaces_13 : decode cX5_arePlaces 13 = .ok (.ifCond .eq 25, 3) := by decide +kernel
theorem dX5_arePlaces_16 : decode cX5_arePlaces 16 = .ok (.iload_n 2, 1) := by decide +kernel
theorem dX5_arePlaces_17 : decode cX5_arePlaces 17 = .ok (.i2l, 1) := by decide +kernel
theorem dX5_arePlaces_18 : decode cX5_arePlaces 18 = .ok (.lconst 0, 1) := by decide +kernel
theorem dX5_arePlaces_19 : decode cX5_arePlaces 19 = .ok (.aload_n 0, 1) := by decide +kernel
theorem dX5_arePlaces_20 : decode cX5_arePlaces 20 = .ok (.getfield 13, 3) := by decide +kernel
theorem dX5_arePlaces_23 : decode cX5_arePlaces 23 = .ok (.iload_n 1, 1) := by decide +kernel
theorem dX5_arePlaces_24 : decode cX5_arePlaces 24 = .ok (.iaload, 1) := by decide +kernel
theorem dX5_arePlaces_25 : decode cX5_arePlaces 25 = .ok (.iload_n 3, 1) := by decide +kernel
theorem dX5_arePlaces_26 : decode cX5_arePlaces 26 = .ok (.isub, 1) := by decide +kernel
theorem dX5_arePlaces_27 : decode cX5_arePlaces 27 = .ok (.i2l, 1) := by decide +kernel
theorem dX5_arePlaces_28 : decode cX5_arePlaces 28 = .ok (.invokestatic 60, 3) := by decide +kernel
theorem dX5_arePlaces_31 : decode cX5_arePlaces 31 = .ok (.ifCond .eq 7, 3) := by decide +kernel
theorem dX5_arePlaces_34 : decode cX5_arePlaces 34 = .ok (.iconst 1, 1) := by decide +kernel
theorem dX5_arePlaces_35 : decode cX5_arePlaces 35 = .ok (.goto 4, 3) := by decide +kernel
theorem dX5_arePlaces_38 : decode cX5_arePlaces 38 = .ok (.iconst 0, 1) := by decide +kernel
theorem dX5_arePlaces_39 : decode cX5_arePlaces 39 = .ok (.ireturn, 1) := by decide +kernel
theorem dX5_row_0 : decode cX5_row 0 = .ok (.aload_n 0, 1) := by decide +kernel
theorem dX5_row_1 : decode cX5_row 1 = .ok (.iconst 0, 1) := by decide +kernel
theorem dX5_row_2 : decode cX5_row 2 = .ok (.putfield 54, 3) := by decide +kernel
theorem dX5_row_5 : decode cX5_row 5 = .ok (.iload_n 1, 1) := by decide +kernel
theorem dX5_row_6 : decode cX5_row 6 = .ok (.invokestatic 64, 3) := by decide +kernel
theorem dX5_row_9 : decode cX5_row 9 = .ok (.ifCond .eq 21, 3) := by decide +kernel
theorem dX5_row_12 : decode cX5_row 12 = .ok (.iload_n 2, 1) := by decide +kernel
theorem dX5_row_13 : decode cX5_row 13 = .ok (.i2l, 1) := by decide +kernel
theorem dX5_row_14 : decode cX5_row 14 = .ok (.lconst 0, 1) := by decide +kernel
theorem dX5_row_15 : decode cX5_row 15 = .ok (.ldc2_w 68, 3) := by decide +kernel
theorem dX5_row_18 : decode cX5_row 18 = .ok (.invokestatic 60, 3) := by decide +kernel
theorem dX5_row_21 : decode cX5_row 21 = .ok (.ifCond .eq 9, 3) := by decide +kernel
theorem dX5_row_24 : decode cX5_row 24 = .ok (.iload_n 3, 1) := by decide +kernel
theorem dX5_row_25 : decode cX5_row 25 = .ok (.bipush 40, 2) := by decide +kernel
theorem dX5_row_27 : decode cX5_row 27 = .ok (.if_icmp .le 6, 3) := by decide +kernel
theorem dX5_row_30 : decode cX5_row 30 = .ok (.bipush (-3), 2) := by decide +kernel
theorem dX5_row_32 : decode cX5_row 32 = .ok (.ireturn, 1) := by decide +kernel
theorem dX5_row_33 : decode cX5_row 33 = .ok (.iload_n 3, 1) := by decide +kernel
theorem dX5_row_34 : decode cX5_row 34 = .ok (.ifCond .ge 6, 3) := by decide +kernel
theorem dX5_row_37 : decode cX5_row 37 = .ok (.bipush (-14), 2) := by decide +kernel
theorem dX5_row_39 : decode cX5_row 39 = .ok (.ireturn, 1) := by decide +kernel
theorem dX5_row_40 : decode cX5_row 40 = .ok (.aload_n 0, 1) := by decide +kernel
theorem dX5_row_41 : decode cX5_row 41 = .ok (.getfield 7, 3) := by decide +kernel
theorem dX5_row_44 : decode cX5_row 44 = .ok (.iload_n 1, 1) := by decide +kernel
theorem dX5_row_45 : decode cX5_row 45 = .ok (.iload_n 2, 1) := by decide +kernel
theorem dX5_row_46 : decode cX5_row 46 = .ok (.iastore, 1) := by decide +kernel
theorem dX5_row_47 : decode cX5_row 47 = .ok (.aload_n 0, 1) := by decide +kernel
theorem dX5_row_48 : decode cX5_row 48 = .ok (.getfield 13, 3) := by decide +kernel
theorem dX5_row_51 : decode cX5_row 51 = .ok (.iload_n 1, 1) := by decide +kernel
theorem dX5_row_52 : decode cX5_row 52 = .ok (.iload_n 3, 1) := by decide +kernel
theorem dX5_row_53 : decode cX5_row 53 = .ok (.iastore, 1) := by decide +kernel
theorem dX5_row_54 : decode cX5_row 54 = .ok (.bipush 40, 2) := by decide +kernel
theorem dX5_row_56 : decode cX5_row 56 = .ok (.iload_n 1, 1) := by decide +kernel
theorem dX5_row_57 : decode cX5_row 57 = .ok (.imul, 1) := by decide +kernel
theorem dX5_row_58 : decode cX5_row 58 = .ok (.istore 4, 2) := by decide +kernel
theorem dX5_row_60 : decode cX5_row 60 = .ok (.iload 4, 2) := by decide +kernel
theorem dX5_row_62 : decode cX5_row 62 = .ok (.bipush 40, 2) := by decide +kernel
theorem dX5_row_64 : decode cX5_row 64 = .ok (.iload_n 1, 1) := by decide +kernel
theorem dX5_row_65 : decode cX5_row 65 = .ok (.imul, 1) := by decide +kernel
theorem dX5_row_66 : decode cX5_row 66 = .ok (.bipush 40, 2) := by decide +kernel
theorem dX5_row_68 : decode cX5_row 68 = .ok (.iadd, 1) := by decide +kernel
theorem dX5_row_69 : decode cX5_row 69 = .ok (.if_icmp .ge 33, 3) := by decide +kernel
theorem dX5_row_72 : decode cX5_row 72 = .ok (.aload_n 0, 1) := by decide +kernel
theorem dX5_row_73 : decode cX5_row 73 = .ok (.getfield 16, 3) := by decide +kernel
theorem dX5_row_76 : decode cX5_row 76 = .ok (.iload 4, 2) := by decide +kernel
theorem dX5_row_78 : decode cX5_row 78 = .ok (.lconst 0, 1) := by decide +kernel
theorem dX5_row_79 : decode cX5_row 79 = .ok (.lastore, 1) := by decide +kernel
theorem dX5_row_80 : decode cX5_row 80 = .ok (.aload_n 0, 1) := by decide +kernel
theorem dX5_row_81 : decode cX5_row 81 = .ok (.getfield 20, 3) := by decide +kernel
theorem dX5_row_84 : decode cX5_row 84 = .ok (.iload 4, 2) := by decide +kernel
theorem dX5_row_86 : decode cX5_row 86 = .ok (.dconst 0, 1) := by decide +kernel
theorem dX5_row_87 : decode cX5_row 87 = .ok (.dastore, 1) := by decide +kernel
theorem dX5_row_88 : decode cX5_row 88 = .ok (.aload_n 0, 1) := by decide +kernel
theorem dX5_row_89 : decode cX5_row 89 = .ok (.getfield 24, 3) := by decide +kernel
theorem dX5_row_92 : decode cX5_row 92 = .ok (.iload 4, 2) := by decide +kernel
theorem dX5_row_94 : decode cX5_row 94 = .ok (.iconst 0, 1) := by decide +kernel
theorem dX5_row_95 : decode cX5_row 95 = .ok (.iastore, 1) := by decide +kernel
theorem dX5_row_96 : decode cX5_row 96 = .ok (.iinc 4 1, 3) := by decide +kernel
theorem dX5_row_99 : decode cX5_row 99 = .ok (.goto (-39), 3) := by decide +kernel
theorem dX5_row_102 : decode cX5_row 102 = .ok (.iload_n 3, 1) := by decide +kernel
theorem dX5_row_103 : decode cX5_row 103 = .ok (.ireturn, 1) := by decide +kernel
theorem dX5_lose_0 : decode cX5_lose 0 = .ok (.aload_n 0, 1) := by decide +kernel
theorem dX5_lose_1 : decode cX5_lose 1 = .ok (.iconst 0, 1) := by decide +kernel
theorem dX5_lose_2 : decode cX5_lose 2 = .ok (.putfield 54, 3) := by decide +kernel
theorem dX5_lose_5 : decode cX5_lose 5 = .ok (.iload_n 1, 1) := by decide +kernel
theorem dX5_lose_6 : decode cX5_lose 6 = .ok (.invokestatic 64, 3) := by decide +kernel
theorem dX5_lose_9 : decode cX5_lose 9 = .ok (.ifCond .ne 6, 3) := by decide +kernel
theorem dX5_lose_12 : decode cX5_lose 12 = .ok (.bipush (-3), 2) := by decide +kernel
theorem dX5_lose_14 : decode cX5_lose 14 = .ok (.ireturn, 1) := by decide +kernel
theorem dX5_lose_15 : decode cX5_lose 15 = .ok (.aload_n 0, 1) := by decide +kernel
theorem dX5_lose_16 : decode cX5_lose 16 = .ok (.iload_n 1, 1) := by decide +kernel
theorem dX5_lose_17 : decode cX5_lose 17 = .ok (.invokevirtual 70, 3) := by decide +kernel
theorem dX5_lose_20 : decode cX5_lose 20 = .ok (.ifCond .ne 6, 3) := by decide +kernel
theorem dX5_lose_23 : decode cX5_lose 23 = .ok (.bipush (-11), 2) := by decide +kernel
theorem dX5_lose_25 : decode cX5_lose 25 = .ok (.ireturn, 1) := by decide +kernel
theorem dX5_lose_26 : decode cX5_lose 26 = .ok (.aload_n 0, 1) := by decide +kernel
theorem dX5_lose_27 : decode cX5_lose 27 = .ok (.getfield 7, 3) := by decide +kernel
theorem dX5_lose_30 : decode cX5_lose 30 = .ok (.iload_n 1, 1) := by decide +kernel
theorem dX5_lose_31 : decode cX5_lose 31 = .ok (.iconst (-1), 1) := by decide +kernel
theorem dX5_lose_32 : decode cX5_lose 32 = .ok (.iastore, 1) := by decide +kernel
theorem dX5_lose_33 : decode cX5_lose 33 = .ok (.aload_n 0, 1) := by decide +kernel
theorem dX5_lose_34 : decode cX5_lose 34 = .ok (.getfield 13, 3) := by decide +kernel
theorem dX5_lose_37 : decode cX5_lose 37 = .ok (.iload_n 1, 1) := by decide +kernel
theorem dX5_lose_38 : decode cX5_lose 38 = .ok (.iaload, 1) := by decide +kernel
theorem dX5_lose_39 : decode cX5_lose 39 = .ok (.istore_n 2, 1) := by decide +kernel
theorem dX5_lose_40 : decode cX5_lose 40 = .ok (.aload_n 0, 1) := by decide +kernel
theorem dX5_lose_41 : decode cX5_lose 41 = .ok (.getfield 13, 3) := by decide +kernel
theorem dX5_lose_44 : decode cX5_lose 44 = .ok (.iload_n 1, 1) := by decide +kernel
theorem dX5_lose_45 : decode cX5_lose 45 = .ok (.iconst 0, 1) := by decide +kernel
theorem dX5_lose_46 : decode cX5_lose 46 = .ok (.iastore, 1) := by decide +kernel
theorem dX5_lose_47 : decode cX5_lose 47 = .ok (.iload_n 2, 1) := by decide +kernel
theorem dX5_lose_48 : decode cX5_lose 48 = .ok (.ireturn, 1) := by decide +kernel
theorem dX5_made_0 : decode cX5_made 0 = .ok (.lload_n 0, 1) := by decide +kernel
theorem dX5_made_1 : decode cX5_made 1 = .ok (.l2d, 1) := by decide +kernel
theorem dX5_made_2 : decode cX5_made 2 = .ok (.dstore_n 3, 1) := by decide +kernel
theorem dX5_made_3 : decode cX5_made 3 = .ok (.iconst 0, 1) := by decide +kernel
theorem dX5_made_4 : decode cX5_made 4 = .ok (.istore 5, 2) := by decide +kernel
theorem dX5_made_6 : decode cX5_made 6 = .ok (.iload 5, 2) := by decide +kernel
theorem dX5_made_8 : decode cX5_made 8 = .ok (.iload_n 2, 1) := by decide +kernel
theorem dX5_made_9 : decode cX5_made 9 = .ok (.if_icmp .ge 15, 3) := by decide +kernel
theorem dX5_made_12 : decode cX5_made 12 = .ok (.dload_n 3, 1) := by decide +kernel
theorem dX5_made_13 : decode cX5_made 13 = .ok (.ldc2_w 73, 3) := by decide +kernel
theorem dX5_made_16 : decode cX5_made 16 = .ok (.dmul, 1) := by decide +kernel
theorem dX5_made_17 : decode cX5_made 17 = .ok (.dstore_n 3, 1) := by decide +kernel
theorem dX5_made_18 : decode cX5_made 18 = .ok (.iinc 5 1, 3) := by decide +kernel
theorem dX5_made_21 : decode cX5_made 21 = .ok (.goto (-15), 3) := by decide +kernel
theorem dX5_made_24 : decode cX5_made 24 = .ok (.iconst 0, 1) := by decide +kernel
theorem dX5_made_25 : decode cX5_made 25 = .ok (.istore 5, 2) := by decide +kernel
theorem dX5_made_27 : decode cX5_made 27 = .ok (.iload 5, 2) := by decide +kernel
theorem dX5_made_29 : decode cX5_made 29 = .ok (.iload_n 2, 1) := by decide +kernel
theorem dX5_made_30 : decode cX5_made 30 = .ok (.if_icmp .le 15, 3) := by decide +kernel
theorem dX5_made_33 : decode cX5_made 33 = .ok (.dload_n 3, 1) := by decide +kernel
theorem dX5_made_34 : decode cX5_made 34 = .ok (.ldc2_w 75, 3) := by decide +kernel
theorem dX5_made_37 : decode cX5_made 37 = .ok (.dmul, 1) := by decide +kernel
theorem dX5_made_38 : decode cX5_made 38 = .ok (.dstore_n 3, 1) := by decide +kernel
theorem dX5_made_39 : decode cX5_made 39 = .ok (.iinc 5 (-1), 3) := by decide +kernel
theorem dX5_made_42 : decode cX5_made 42 = .ok (.goto (-15), 3) := by decide +kernel
theorem dX5_made_45 : decode cX5_made 45 = .ok (.dload_n 3, 1) := by decide +kernel
theorem dX5_made_46 : decode cX5_made 46 = .ok (.dreturn, 1) := by decide +kernel
theorem dX5_put_0 : decode cX5_put 0 = .ok (.aload_n 0, 1) := by decide +kernel
theorem dX5_put_1 : decode cX5_put 1 = .ok (.iconst 0, 1) := by decide +kernel
theorem dX5_put_2 : decode cX5_put 2 = .ok (.putfield 54, 3) := by decide +kernel
theorem dX5_put_5 : decode cX5_put 5 = .ok (.iload_n 1, 1) := by decide +kernel
theorem dX5_put_6 : decode cX5_put 6 = .ok (.invokestatic 64, 3) := by decide +kernel
theorem dX5_put_9 : decode cX5_put 9 = .ok (.ifCond .eq 31, 3) := by decide +kernel
theorem dX5_put_12 : decode cX5_put 12 = .ok (.lload_n 3, 1) := by decide +kernel
theorem dX5_put_13 : decode cX5_put 13 = .ok (.ldc2_w 77, 3) := by decide +kernel
theorem dX5_put_16 : decode cX5_put 16 = .ok (.ldc2_w 79, 3) := by decide +kernel
theorem dX5_put_19 : decode cX5_put 19 = .ok (.invokestatic 60, 3) := by decide +kernel
theorem dX5_put_22 : decode cX5_put 22 = .ok (.ifCond .eq 18, 3) := by decide +kernel
theorem dX5_put_25 : decode cX5_put 25 = .ok (.iload 5, 2) := by decide +kernel
theorem dX5_put_27 : decode cX5_put 27 = .ok (.i2l, 1) := by decide +kernel
theorem dX5_put_28 : decode cX5_put 28 = .ok (.ldc2_w 81, 3) := by decide +kernel
theorem dX5_put_31 : decode cX5_put 31 = .ok (.ldc2_w 83, 3) := by decide +kernel
theorem dX5_put_34 : decode cX5_put 34 = .ok (.invokestatic 60, 3) := by decide +kernel
theorem dX5_put_37 : decode cX5_put 37 = .ok (.ifCond .ne 6, 3) := by decide +kernel
theorem dX5_put_40 : decode cX5_put 40 = .ok (.bipush (-3), 2) := by decide +kernel
theorem dX5_put_42 : decode cX5_put 42 = .ok (.ireturn, 1) := by decide +kernel
theorem dX5_put_43 : decode cX5_put 43 = .ok (.aload_n 0, 1) := by decide +kernel
theorem dX5_put_44 : decode cX5_put 44 = .ok (.iload_n 1, 1) := by decide +kernel
theorem dX5_put_45 : decode cX5_put 45 = .ok (.invokevirtual 70, 3) := by decide +kernel
theorem dX5_put_48 : decode cX5_put 48 = .ok (.ifCond .ne 6, 3) := by decide +kernel
theorem dX5_put_51 : decode cX5_put 51 = .ok (.bipush (-11), 2) := by decide +kernel
theorem dX5_put_53 : decode cX5_put 53 = .ok (.ireturn, 1) := by decide +kernel
theorem dX5_put_54 : decode cX5_put 54 = .ok (.aload_n 0, 1) := by decide +kernel
theorem dX5_put_55 : decode cX5_put 55 = .ok (.iload_n 1, 1) := by decide +kernel
theorem dX5_put_56 : decode cX5_put 56 = .ok (.iload_n 2, 1) := by decide +kernel
theorem dX5_put_57 : decode cX5_put 57 = .ok (.invokevirtual 85, 3) := by decide +kernel
theorem dX5_put_60 : decode cX5_put 60 = .ok (.ifCond .ne 6, 3) := by decide +kernel
theorem dX5_put_63 : decode cX5_put 63 = .ok (.bipush (-13), 2) := by decide +kernel
theorem dX5_put_65 : decode cX5_put 65 = .ok (.ireturn, 1) := by decide +kernel
theorem dX5_put_66 : decode cX5_put 66 = .ok (.bipush 40, 2) := by decide +kernel
theorem dX5_put_68 : decode cX5_put 68 = .ok (.iload_n 1, 1) := by decide +kernel
theorem dX5_put_69 : decode cX5_put 69 = .ok (.imul, 1) := by decide +kernel
theorem dX5_put_70 : decode cX5_put 70 = .ok (.iload_n 2, 1) := by decide +kernel
theorem dX5_put_71 : decode cX5_put 71 = .ok (.iadd, 1) := by decide +kernel
theorem dX5_put_72 : decode cX5_put 72 = .ok (.istore 6, 2) := by decide +kernel
theorem dX5_put_74 : decode cX5_put 74 = .ok (.aload_n 0, 1) := by decide +kernel
theorem dX5_put_75 : decode cX5_put 75 = .ok (.getfield 7, 3) := by decide +kernel
theorem dX5_put_78 : decode cX5_put 78 = .ok (.iload_n 1, 1) := by decide +kernel
theorem dX5_put_79 : decode cX5_put 79 = .ok (.iaload, 1) := by decide +kernel
theorem dX5_put_80 : decode cX5_put 80 = .ok (.tableswitch 103 0 4 #[36, 50, 64, 77, 88], 36) := by decide +kernel
theorem dX5_put_116 : decode cX5_put 116 = .ok (.aload_n 0, 1) := by decide +kernel
theorem dX5_put_117 : decode cX5_put 117 = .ok (.getfield 16, 3) := by decide +kernel
theorem dX5_put_120 : decode cX5_put 120 = .ok (.iload 6, 2) := by decide +kernel
theorem dX5_put_122 : decode cX5_put 122 = .ok (.lload_n 3, 1) := by decide +kernel
theorem dX5_put_123 : decode cX5_put 123 = .ok (.l2i, 1) := by decide +kernel
theorem dX5_put_124 : decode cX5_put 124 = .ok (.i2b, 1) := by decide +kernel
theorem dX5_put_125 : decode cX5_put 125 = .ok (.i2l, 1) := by decide +kernel
theorem dX5_put_126 : decode cX5_put 126 = .ok (.lastore, 1) := by decide +kernel
theorem dX5_put_127 : decode cX5_put 127 = .ok (.goto 77, 3) := by decide +kernel
theorem dX5_put_130 : decode cX5_put 130 = .ok (.aload_n 0, 1) := by decide +kernel
theorem dX5_put_131 : decode cX5_put 131 = .ok (.getfield 16, 3) := by decide +kernel
theorem dX5_put_134 : decode cX5_put 134 = .ok (.iload 6, 2) := by decide +kernel
theorem dX5_put_136 : decode cX5_put 136 = .ok (.lload_n 3, 1) := by decide +kernel
theorem dX5_put_137 : decode cX5_put 137 = .ok (.l2i, 1) := by decide +kernel
theorem dX5_put_138 : decode cX5_put 138 = .ok (.i2s, 1) := by decide +kernel
theorem dX5_put_139 : decode cX5_put 139 = .ok (.i2l, 1) := by decide +kernel
theorem dX5_put_140 : decode cX5_put 140 = .ok (.lastore, 1) := by decide +kernel
theorem dX5_put_141 : decode cX5_put 141 = .ok (.goto 63, 3) := by decide +kernel
theorem dX5_put_144 : decode cX5_put 144 = .ok (.aload_n 0, 1) := by decide +kernel
theorem dX5_put_145 : decode cX5_put 145 = .ok (.getfield 16, 3) := by decide +kernel
theorem dX5_put_148 : decode cX5_put 148 = .ok (.iload 6, 2) := by decide +kernel
theorem dX5_put_150 : decode cX5_put 150 = .ok (.lload_n 3, 1) := by decide +kernel
theorem dX5_put_151 : decode cX5_put 151 = .ok (.l2i, 1) := by decide +kernel
theorem dX5_put_152 : decode cX5_put 152 = .ok (.i2l, 1) := by decide +kernel
theorem dX5_put_153 : decode cX5_put 153 = .ok (.lastore, 1) := by decide +kernel
theorem dX5_put_154 : decode cX5_put 154 = .ok (.goto 50, 3) := by decide +kernel
theorem dX5_put_157 : decode cX5_put 157 = .ok (.aload_n 0, 1) := by decide +kernel
theorem dX5_put_158 : decode cX5_put 158 = .ok (.getfield 16, 3) := by decide +kernel
theorem dX5_put_161 : decode cX5_put 161 = .ok (.iload 6, 2) := by decide +kernel
theorem dX5_put_163 : decode cX5_put 163 = .ok (.lload_n 3, 1) := by decide +kernel
theorem dX5_put_164 : decode cX5_put 164 = .ok (.lastore, 1) := by decide +kernel
theorem dX5_put_165 : decode cX5_put 165 = .ok (.goto 39, 3) := by decide +kernel
theorem dX5_put_168 : decode cX5_put 168 = .ok (.aload_n 0, 1) := by decide +kernel
theorem dX5_put_169 : decode cX5_put 169 = .ok (.iload 6, 2) := by decide +kernel
theorem dX5_put_171 : decode cX5_put 171 = .ok (.lload_n 3, 1) := by decide +kernel
theorem dX5_put_172 : decode cX5_put 172 = .ok (.iload 5, 2) := by decide +kernel
theorem dX5_put_174 : decode cX5_put 174 = .ok (.invokestatic 89, 3) := by decide +kernel
theorem dX5_put_177 : decode cX5_put 177 = .ok (.invokevirtual 93, 3) := by decide +kernel
theorem dX5_put_180 : decode cX5_put 180 = .ok (.goto 24, 3) := by decide +kernel
theorem dX5_put_183 : decode cX5_put 183 = .ok (.aload_n 0, 1) := by decide +kernel
theorem dX5_put_184 : decode cX5_put 184 = .ok (.getfield 24, 3) := by decide +kernel
theorem dX5_put_187 : decode cX5_put 187 = .ok (.iload 6, 2) := by decide +kernel
theorem dX5_put_189 : decode cX5_put 189 = .ok (.iconst 0, 1) := by decide +kernel
theorem dX5_put_190 : decode cX5_put 190 = .ok (.iastore, 1) := by decide +kernel
theorem dX5_put_191 : decode cX5_put 191 = .ok (.aload_n 0, 1) := by decide +kernel
theorem dX5_put_192 : decode cX5_put 192 = .ok (.getfield 20, 3) := by decide +kernel
theorem dX5_put_195 : decode cX5_put 195 = .ok (.iload 6, 2) := by decide +kernel
theorem dX5_put_197 : decode cX5_put 197 = .ok (.lload_n 3, 1) := by decide +kernel
theorem dX5_put_198 : decode cX5_put 198 = .ok (.iload 5, 2) := by decide +kernel
theorem dX5_put_200 : decode cX5_put 200 = .ok (.invokestatic 89, 3) := by decide +kernel
theorem dX5_put_203 : decode cX5_put 203 = .ok (.dastore, 1) := by decide +kernel
theorem dX5_put_204 : decode cX5_put 204 = .ok (.iconst 0, 1) := by decide +kernel
theorem dX5_put_205 : decode cX5_put 205 = .ok (.ireturn, 1) := by decide +kernel
theorem dX5_putFloat_0 : decode cX5_putFloat 0 = .ok (.ldc2_w 97, 3) := by decide +kernel
theorem dX5_putFloat_3 : decode cX5_putFloat 3 = .ok (.bipush 103, 2) := by decide +kernel
theorem dX5_putFloat_5 : decode cX5_putFloat 5 = .ok (.invokestatic 89, 3) := by decide +kernel
theorem dX5_putFloat_8 : decode cX5_putFloat 8 = .ok (.dstore 4, 2) := by decide +kernel
theorem dX5_putFloat_10 : decode cX5_putFloat 10 = .ok (.aload_n 0, 1) := by decide +kernel
theorem dX5_putFloat_11 : decode cX5_putFloat 11 = .ok (.getfield 24, 3) := by decide +kernel
theorem dX5_putFloat_14 : decode cX5_putFloat 14 = .ok (.iload_n 1, 1) := by decide +kernel
theorem dX5_putFloat_15 : decode cX5_putFloat 15 = .ok (.dload_n 2, 1) := by decide +kernel
theorem dX5_putFloat_16 : decode cX5_putFloat 16 = .ok (.dload 4, 2) := by decide +kernel
theorem dX5_putFloat_18 : decode cX5_putFloat 18 = .ok (.dcmp .l, 1) := by decide +kernel
theorem dX5_putFloat_19 : decode cX5_putFloat 19 = .ok (.ifCond .lt 7, 3) := by decide +kernel
theorem dX5_putFloat_22 : decode cX5_putFloat 22 = .ok (.iconst 1, 1) := by decide +kernel
theorem dX5_putFloat_23 : decode cX5_putFloat 23 = .ok (.goto 16, 3) := by decide +kernel
theorem dX5_putFloat_26 : decode cX5_putFloat 26 = .ok (.dload_n 2, 1) := by decide +kernel
theorem dX5_putFloat_27 : decode cX5_putFloat 27 = .ok (.dload 4, 2) := by decide +kernel
theorem dX5_putFloat_29 : decode cX5_putFloat 29 = .ok (.dneg, 1) := by decide +kernel
theorem dX5_putFloat_30 : decode cX5_putFloat 30 = .ok (.dcmp .g, 1) := by decide +kernel
theorem dX5_putFloat_31 : decode cX5_putFloat 31 = .ok (.ifCond .gt 7, 3) := by decide +kernel
theorem dX5_putFloat_34 : decode cX5_putFloat 34 = .ok (.iconst 2, 1) := by decide +kernel
theorem dX5_putFloat_35 : decode cX5_putFloat 35 = .ok (.goto 4, 3) := by decide +kernel
theorem dX5_putFloat_38 : decode cX5_putFloat 38 = .ok (.iconst 0, 1) := by decide +kernel
theorem dX5_putFloat_39 : decode cX5_putFloat 39 = .ok (.iastore, 1) := by decide +kernel
theorem dX5_putFloat_40 : decode cX5_putFloat 40 = .ok (.aload_n 0, 1) := by decide +kernel
theorem dX5_putFloat_41 : decode cX5_putFloat 41 = .ok (.getfield 20, 3) := by decide +kernel
theorem dX5_putFloat_44 : decode cX5_putFloat 44 = .ok (.iload_n 1, 1) := by decide +kernel
theorem dX5_putFloat_45 : decode cX5_putFloat 45 = .ok (.aload_n 0, 1) := by decide +kernel
theorem dX5_putFloat_46 : decode cX5_putFloat 46 = .ok (.getfield 24, 3) := by decide +kernel
theorem dX5_putFloat_49 : decode cX5_putFloat 49 = .ok (.iload_n 1, 1) := by decide +kernel
theorem dX5_putFloat_50 : decode cX5_putFloat 50 = .ok (.iaload, 1) := by decide +kernel
theorem dX5_putFloat_51 : decode cX5_putFloat 51 = .ok (.ifCond .ne 9, 3) := by decide +kernel
theorem dX5_putFloat_54 : decode cX5_putFloat 54 = .ok (.dload_n 2, 1) := by decide +kernel
theorem dX5_putFloat_55 : decode cX5_putFloat 55 = .ok (.d2f, 1) := by decide +kernel
theorem dX5_putFloat_56 : decode cX5_putFloat 56 = .ok (.f2d, 1) := by decide +kernel
theorem dX5_putFloat_57 : decode cX5_putFloat 57 = .ok (.goto 4, 3) := by decide +kernel
theorem dX5_putFloat_60 : decode cX5_putFloat 60 = .ok (.dconst 0, 1) := by decide +kernel
theorem dX5_putFloat_61 : decode cX5_putFloat 61 = .ok (.dastore, 1) := by decide +kernel
theorem dX5_putFloat_62 : decode cX5_putFloat 62 = .ok (.return_, 1) := by decide +kernel
theorem dX5_mark_0 : decode cX5_mark 0 = .ok (.aload_n 0, 1) := by decide +kernel
theorem dX5_mark_1 : decode cX5_mark 1 = .ok (.iconst 0, 1) := by decide +kernel
theorem dX5_mark_2 : decode cX5_mark 2 = .ok (.putfield 54, 3) := by decide +kernel
theorem dX5_mark_5 : decode cX5_mark 5 = .ok (.iload_n 1, 1) := by decide +kernel
theorem dX5_mark_6 : decode cX5_mark 6 = .ok (.invokestatic 64, 3) := by decide +kernel
theorem dX5_mark_9 : decode cX5_mark 9 = .ok (.ifCond .eq 15, 3) := by decide +kernel
theorem dX5_mark_12 : decode cX5_mark 12 = .ok (.iload_n 3, 1) := by decide +kernel
theorem dX5_mark_13 : decode cX5_mark 13 = .ok (.i2l, 1) := by decide +kernel
theorem dX5_mark_14 : decode cX5_mark 14 = .ok (.lconst 0, 1) := by decide +kernel
theorem dX5_mark_15 : decode cX5_mark 15 = .ok (.ldc2_w 68, 3) := by decide +kernel
theorem dX5_mark_18 : decode cX5_mark 18 = .ok (.invokestatic 60, 3) := by decide +kernel
theorem dX5_mark_21 : decode cX5_mark 21 = .ok (.ifCond .ne 6, 3) := by decide +kernel
theorem dX5_mark_24 : decode cX5_mark 24 = .ok (.bipush (-3), 2) := by decide +kernel
theorem dX5_mark_26 : decode cX5_mark 26 = .ok (.ireturn, 1) := by decide +kernel
theorem dX5_mark_27 : decode cX5_mark 27 = .ok (.aload_n 0, 1) := by decide +kernel
theorem dX5_mark_28 : decode cX5_mark 28 = .ok (.iload_n 1, 1) := by decide +kernel
theorem dX5_mark_29 : decode cX5_mark 29 = .ok (.invokevirtual 70, 3) := by decide +kernel
theorem dX5_mark_32 : decode cX5_mark 32 = .ok (.ifCond .ne 6, 3) := by decide +kernel
theorem dX5_mark_35 : decode cX5_mark 35 = .ok (.bipush (-11), 2) := by decide +kernel
theorem dX5_mark_37 : decode cX5_mark 37 = .ok (.ireturn, 1) := by decide +kernel
theorem dX5_mark_38 : decode cX5_mark 38 = .ok (.aload_n 0, 1) := by decide +kernel
theorem dX5_mark_39 : decode cX5_mark 39 = .ok (.iload_n 1, 1) := by decide +kernel
theorem dX5_mark_40 : decode cX5_mark 40 = .ok (.invokevirtual 99, 3) := by decide +kernel
theorem dX5_mark_43 : decode cX5_mark 43 = .ok (.ifCond .ne 6, 3) := by decide +kernel
theorem dX5_mark_46 : decode cX5_mark 46 = .ok (.bipush (-12), 2) := by decide +kernel
theorem dX5_mark_48 : decode cX5_mark 48 = .ok (.ireturn, 1) := by decide +kernel
theorem dX5_mark_49 : decode cX5_mark 49 = .ok (.aload_n 0, 1) := by decide +kernel
theorem dX5_mark_50 : decode cX5_mark 50 = .ok (.iload_n 1, 1) := by decide +kernel
theorem dX5_mark_51 : decode cX5_mark 51 = .ok (.iload_n 2, 1) := by decide +kernel
theorem dX5_mark_52 : decode cX5_mark 52 = .ok (.invokevirtual 85, 3) := by decide +kernel
theorem dX5_mark_55 : decode cX5_mark 55 = .ok (.ifCond .ne 6, 3) := by decide +kernel
theorem dX5_mark_58 : decode cX5_mark 58 = .ok (.bipush (-13), 2) := by decide +kernel
theorem dX5_mark_60 : decode cX5_mark 60 = .ok (.ireturn, 1) := by decide +kernel
theorem dX5_mark_61 : decode cX5_mark 61 = .ok (.bipush 40, 2) := by decide +kernel
theorem dX5_mark_63 : decode cX5_mark 63 = .ok (.iload_n 1, 1) := by decide +kernel
theorem dX5_mark_64 : decode cX5_mark 64 = .ok (.imul, 1) := by decide +kernel
theorem dX5_mark_65 : decode cX5_mark 65 = .ok (.iload_n 2, 1) := by decide +kernel
theorem dX5_mark_66 : decode cX5_mark 66 = .ok (.iadd, 1) := by decide +kernel
theorem dX5_mark_67 : decode cX5_mark 67 = .ok (.istore 4, 2) := by decide +kernel
theorem dX5_mark_69 : decode cX5_mark 69 = .ok (.aload_n 0, 1) := by decide +kernel
theorem dX5_mark_70 : decode cX5_mark 70 = .ok (.getfield 7, 3) := by decide +kernel
theorem dX5_mark_73 : decode cX5_mark 73 = .ok (.iload_n 1, 1) := by decide +kernel
theorem dX5_mark_74 : decode cX5_mark 74 = .ok (.iaload, 1) := by decide +kernel
theorem dX5_mark_75 : decode cX5_mark 75 = .ok (.iconst 4, 1) := by decide +kernel
theorem dX5_mark_76 : decode cX5_mark 76 = .ok (.if_icmp .ne 7, 3) := by decide +kernel
theorem dX5_mark_79 : decode cX5_mark 79 = .ok (.iconst 1, 1) := by decide +kernel
theorem dX5_mark_80 : decode cX5_mark 80 = .ok (.goto 4, 3) := by decide +kernel
theorem dX5_mark_83 : decode cX5_mark 83 = .ok (.iconst 0, 1) := by decide +kernel
theorem dX5_mark_84 : decode cX5_mark 84 = .ok (.istore 5, 2) := by decide +kernel
theorem dX5_mark_86 : decode cX5_mark 86 = .ok (.aload_n 0, 1) := by decide +kernel
theorem dX5_mark_87 : decode cX5_mark 87 = .ok (.getfield 24, 3) := by decide +kernel
theorem dX5_mark_90 : decode cX5_mark 90 = .ok (.iload 4, 2) := by decide +kernel
theorem dX5_mark_92 : decode cX5_mark 92 = .ok (.iload_n 3, 1) := by decide +kernel
theorem dX5_mark_93 : decode cX5_mark 93 = .ok (.ifCond .ne 7, 3) := by decide +kernel
theorem dX5_mark_96 : decode cX5_mark 96 = .ok (.iconst 1, 1) := by decide +kernel
theorem dX5_mark_97 : decode cX5_mark 97 = .ok (.goto 22, 3) := by decide +kernel
theorem dX5_mark_100 : decode cX5_mark 100 = .ok (.iload_n 3, 1) := by decide +kernel
theorem dX5_mark_101 : decode cX5_mark 101 = .ok (.iconst 1, 1) := by decide +kernel
theorem dX5_mark_102 : decode cX5_mark 102 = .ok (.if_icmp .ne 7, 3) := by decide +kernel
theorem dX5_mark_105 : decode cX5_mark 105 = .ok (.iconst 2, 1) := by decide +kernel
theorem dX5_mark_106 : decode cX5_mark 106 = .ok (.goto 13, 3) := by decide +kernel
theorem dX5_mark_109 : decode cX5_mark 109 = .ok (.iload_n 3, 1) := by decide +kernel
theorem dX5_mark_110 : decode cX5_mark 110 = .ok (.iconst 2, 1) := by decide +kernel
theorem dX5_mark_111 : decode cX5_mark 111 = .ok (.if_icmp .ne 7, 3) := by decide +kernel
theorem dX5_mark_114 : decode cX5_mark 114 = .ok (.iconst 3, 1) := by decide +kernel
theorem dX5_mark_115 : decode cX5_mark 115 = .ok (.goto 4, 3) := by decide +kernel
theorem dX5_mark_118 : decode cX5_mark 118 = .ok (.iconst 0, 1) := by decide +kernel
theorem dX5_mark_119 : decode cX5_mark 119 = .ok (.iastore, 1) := by decide +kernel
theorem dX5_mark_120 : decode cX5_mark 120 = .ok (.aload_n 0, 1) := by decide +kernel
theorem dX5_mark_121 : decode cX5_mark 121 = .ok (.getfield 20, 3) := by decide +kernel
theorem dX5_mark_124 : decode cX5_mark 124 = .ok (.iload 4, 2) := by decide +kernel
theorem dX5_mark_126 : decode cX5_mark 126 = .ok (.iload_n 3, 1) := by decide +kernel
theorem dX5_mark_127 : decode cX5_mark 127 = .ok (.iconst 3, 1) := by decide +kernel
theorem dX5_mark_128 : decode cX5_mark 128 = .ok (.if_icmp .ne 9, 3) := by decide +kernel
theorem dX5_mark_131 : decode cX5_mark 131 = .ok (.ldc2_w 102, 3) := by decide +kernel
theorem dX5_mark_134 : decode cX5_mark 134 = .ok (.goto 67, 3) := by decide +kernel
theorem dX5_mark_137 : decode cX5_mark 137 = .ok (.iload_n 3, 1) := by decide +kernel
theorem dX5_mark_138 : decode cX5_mark 138 = .ok (.iconst 4, 1) := by decide +kernel
theorem dX5_mark_139 : decode cX5_mark 139 = .ok (.if_icmp .ne 31, 3) := by decide +kernel
theorem dX5_mark_142 : decode cX5_mark 142 = .ok (.iload 5, 2) := by decide +kernel
theorem dX5_mark_144 : decode cX5_mark 144 = .ok (.ifCond .eq 14, 3) := by decide +kernel
theorem dX5_mark_147 : decode cX5_mark 147 = .ok (.ldc2_w 104, 3) := by decide +kernel
theorem dX5_mark_150 : decode cX5_mark 150 = .ok (.bipush 104, 2) := by decide +kernel
theorem dX5_mark_152 : decode cX5_mark 152 = .ok (.invokestatic 89, 3) := by decide +kernel
theorem dX5_mark_155 : decode cX5_mark 155 = .ok (.goto 46, 3) := by decide +kernel
theorem dX5_mark_158 : decode cX5_mark 158 = .ok (.ldc2_w 79, 3) := by decide +kernel
theorem dX5_mark_161 : decode cX5_mark 161 = .ok (.sipush 971, 3) := by decide +kernel
theorem dX5_mark_164 : decode cX5_mark 164 = .ok (.invokestatic 89, 3) := by decide +kernel
theorem dX5_mark_167 : decode cX5_mark 167 = .ok (.goto 34, 3) := by decide +kernel
theorem dX5_mark_170 : decode cX5_mark 170 = .ok (.iload_n 3, 1) := by decide +kernel
theorem dX5_mark_171 : decode cX5_mark 171 = .ok (.iconst 5, 1) := by decide +kernel
theorem dX5_mark_172 : decode cX5_mark 172 = .ok (.if_icmp .ne 28, 3) := by decide +kernel
theorem dX5_mark_175 : decode cX5_mark 175 = .ok (.iload 5, 2) := by decide +kernel
theorem dX5_mark_177 : decode cX5_mark 177 = .ok (.ifCond .eq 13, 3) := by decide +kernel
theorem dX5_mark_180 : decode cX5_mark 180 = .ok (.lconst 1, 1) := by decide +kernel
theorem dX5_mark_181 : decode cX5_mark 181 = .ok (.sipush (-149), 3) := by decide +kernel
theorem dX5_mark_184 : decode cX5_mark 184 = .ok (.invokestatic 89, 3) := by decide +kernel
theorem dX5_mark_187 : decode cX5_mark 187 = .ok (.goto 14, 3) := by decide +kernel
theorem dX5_mark_190 : decode cX5_mark 190 = .ok (.lconst 1, 1) := by decide +kernel
theorem dX5_mark_191 : decode cX5_mark 191 = .ok (.sipush (-1074), 3) := by decide +kernel
theorem dX5_mark_194 : decode cX5_mark 194 = .ok (.invokestatic 89, 3) := by decide +kernel
theorem dX5_mark_197 : decode cX5_mark 197 = .ok (.goto 4, 3) := by decide +kernel
theorem dX5_mark_200 : decode cX5_mark 200 = .ok (.dconst 0, 1) := by decide +kernel
theorem dX5_mark_201 : decode cX5_mark 201 = .ok (.dastore, 1) := by decide +kernel
theorem dX5_mark_202 : decode cX5_mark 202 = .ok (.iconst 0, 1) := by decide +kernel
theorem dX5_mark_203 : decode cX5_mark 203 = .ok (.ireturn, 1) := by decide +kernel
theorem dX5_copy_0 : decode cX5_copy 0 = .ok (.aload_n 0, 1) := by decide +kernel
theorem dX5_copy_1 : decode cX5_copy 1 = .ok (.iconst 0, 1) := by decide +kernel
theorem dX5_copy_2 : decode cX5_copy 2 = .ok (.putfield 54, 3) := by decide +kernel
theorem dX5_copy_5 : decode cX5_copy 5 = .ok (.iload_n 1, 1) := by decide +kernel
theorem dX5_copy_6 : decode cX5_copy 6 = .ok (.invokestatic 64, 3) := by decide +kernel
theorem dX5_copy_9 : decode cX5_copy 9 = .ok (.ifCond .eq 10, 3) := by decide +kernel
theorem dX5_copy_12 : decode cX5_copy 12 = .ok (.iload_n 3, 1) := by decide +kernel
theorem dX5_copy_13 : decode cX5_copy 13 = .ok (.invokestatic 64, 3) := by decide +kernel
theorem dX5_copy_16 : decode cX5_copy 16 = .ok (.ifCond .ne 6, 3) := by decide +kernel
theorem dX5_copy_19 : decode cX5_copy 19 = .ok (.bipush (-3), 2) := by decide +kernel
theorem dX5_copy_21 : decode cX5_copy 21 = .ok (.ireturn, 1) := by decide +kernel
theorem dX5_copy_22 : decode cX5_copy 22 = .ok (.aload_n 0, 1) := by decide +kernel
theorem dX5_copy_23 : decode cX5_copy 23 = .ok (.iload_n 1, 1) := by decide +kernel
theorem dX5_copy_24 : decode cX5_copy 24 = .ok (.invokevirtual 70, 3) := by decide +kernel
theorem dX5_copy_27 : decode cX5_copy 27 = .ok (.ifCond .eq 11, 3) := by decide +kernel
theorem dX5_copy_30 : decode cX5_copy 30 = .ok (.aload_n 0, 1) := by decide +kernel
theorem dX5_copy_31 : decode cX5_copy 31 = .ok (.iload_n 3, 1) := by decide +kernel
theorem dX5_copy_32 : decode cX5_copy 32 = .ok (.invokevirtual 70, 3) := by decide +kernel
theorem dX5_copy_35 : decode cX5_copy 35 = .ok (.ifCond .ne 6, 3) := by decide +kernel
theorem dX5_copy_38 : decode cX5_copy 38 = .ok (.bipush (-11), 2) := by decide +kernel
theorem dX5_copy_40 : decode cX5_copy 40 = .ok (.ireturn, 1) := by decide +kernel
theorem dX5_copy_41 : decode cX5_copy 41 = .ok (.aload_n 0, 1) := by decide +kernel
theorem dX5_copy_42 : decode cX5_copy 42 = .ok (.getfield 7, 3) := by decide +kernel
theorem dX5_copy_45 : decode cX5_copy 45 = .ok (.iload_n 1, 1) := by decide +kernel
theorem dX5_copy_46 : decode cX5_copy 46 = .ok (.iaload, 1) := by decide +kernel
theorem dX5_copy_47 : decode cX5_copy 47 = .ok (.aload_n 0, 1) := by decide +kernel
theorem dX5_copy_48 : decode cX5_copy 48 = .ok (.getfield 7, 3) := by decide +kernel
theorem dX5_copy_51 : decode cX5_copy 51 = .ok (.iload_n 3, 1) := by decide +kernel
theorem dX5_copy_52 : decode cX5_copy 52 = .ok (.iaload, 1) := by decide +kernel
theorem dX5_copy_53 : decode cX5_copy 53 = .ok (.if_icmp .eq 6, 3) := by decide +kernel
theorem dX5_copy_56 : decode cX5_copy 56 = .ok (.bipush (-12), 2) := by decide +kernel
theorem dX5_copy_58 : decode cX5_copy 58 = .ok (.ireturn, 1) := by decide +kernel
theorem dX5_copy_59 : decode cX5_copy 59 = .ok (.aload_n 0, 1) := by decide +kernel
theorem dX5_copy_60 : decode cX5_copy 60 = .ok (.iload_n 1, 1) := by decide +kernel
theorem dX5_copy_61 : decode cX5_copy 61 = .ok (.iload_n 2, 1) := by decide +kernel
theorem dX5_copy_62 : decode cX5_copy 62 = .ok (.iload 5, 2) := by decide +kernel
theorem dX5_copy_64 : decode cX5_copy 64 = .ok (.invokevirtual 106, 3) := by decide +kernel
theorem dX5_copy_67 : decode cX5_copy 67 = .ok (.ifCond .eq 15, 3) := by decide +kernel
theorem dX5_copy_70 : decode cX5_copy 70 = .ok (.aload_n 0, 1) := by decide +kernel
theorem dX5_copy_71 : decode cX5_copy 71 = .ok (.iload_n 3, 1) := by decide +kernel
theorem dX5_copy_72 : decode cX5_copy 72 = .ok (.iload 4, 2) := by decide +kernel
theorem dX5_copy_74 : decode cX5_copy 74 = .ok (.iload 5, 2) := by decide +kernel
theorem dX5_copy_76 : decode cX5_copy 76 = .ok (.invokevirtual 106, 3) := by decide +kernel
theorem dX5_copy_79 : decode cX5_copy 79 = .ok (.ifCond .ne 6, 3) := by decide +kernel
theorem dX5_copy_82 : decode cX5_copy 82 = .ok (.bipush (-13), 2) := by decide +kernel
theorem dX5_copy_84 : decode cX5_copy 84 = .ok (.ireturn, 1) := by decide +kernel
theorem dX5_copy_85 : decode cX5_copy 85 = .ok (.bipush 40, 2) := by decide +kernel
theorem dX5_copy_87 : decode cX5_copy 87 = .ok (.iload_n 1, 1) := by decide +kernel
theorem dX5_copy_88 : decode cX5_copy 88 = .ok (.imul, 1) := by decide +kernel
theorem dX5_copy_89 : decode cX5_copy 89 = .ok (.iload_n 2, 1) := by decide +kernel
theorem dX5_copy_90 : decode cX5_copy 90 = .ok (.iadd, 1) := by decide +kernel
theorem dX5_copy_91 : decode cX5_copy 91 = .ok (.istore 6, 2) := by decide +kernel
theorem dX5_copy_93 : decode cX5_copy 93 = .ok (.bipush 40, 2) := by decide +kernel
theorem dX5_copy_95 : decode cX5_copy 95 = .ok (.iload_n 3, 1) := by decide +kernel
theorem dX5_copy_96 : decode cX5_copy 96 = .ok (.imul, 1) := by decide +kernel
theorem dX5_copy_97 : decode cX5_copy 97 = .ok (.iload 4, 2) := by decide +kernel
theorem dX5_copy_99 : decode cX5_copy 99 = .ok (.iadd, 1) := by decide +kernel
theorem dX5_copy_100 : decode cX5_copy 100 = .ok (.istore 7, 2) := by decide +kernel
theorem dX5_copy_102 : decode cX5_copy 102 = .ok (.iconst 0, 1) := by decide +kernel
theorem dX5_copy_103 : decode cX5_copy 103 = .ok (.istore 8, 2) := by decide +kernel
theorem dX5_copy_105 : decode cX5_copy 105 = .ok (.iload 8, 2) := by decide +kernel
theorem dX5_copy_107 : decode cX5_copy 107 = .ok (.iload 5, 2) := by decide +kernel
theorem dX5_copy_109 : decode cX5_copy 109 = .ok (.if_icmp .ge 90, 3) := by decide +kernel
theorem dX5_copy_112 : decode cX5_copy 112 = .ok (.iload 7, 2) := by decide +kernel
theorem dX5_copy_114 : decode cX5_copy 114 = .ok (.iload 6, 2) := by decide +kernel
theorem dX5_copy_116 : decode cX5_copy 116 = .ok (.if_icmp .le 13, 3) := by decide +kernel
theorem dX5_copy_119 : decode cX5_copy 119 = .ok (.iload 5, 2) := by decide +kernel
theorem dX5_copy_121 : decode cX5_copy 121 = .ok (.iconst 1, 1) := by decide +kernel
theorem dX5_copy_122 : decode cX5_copy 122 = .ok (.isub, 1) := by decide +kernel
theorem dX5_copy_123 : decode cX5_copy 123 = .ok (.iload 8, 2) := by decide +kernel
theorem dX5_copy_125 : decode cX5_copy 125 = .ok (.isub, 1) := by decide +kernel
theorem dX5_copy_126 : decode cX5_copy 126 = .ok (.goto 5, 3) := by decide +kernel
theorem dX5_copy_129 : decode cX5_copy 129 = .ok (.iload 8, 2) := by decide +kernel
theorem dX5_copy_131 : decode cX5_copy 131 = .ok (.istore 9, 2) := by decide +kernel
theorem dX5_copy_133 : decode cX5_copy 133 = .ok (.aload_n 0, 1) := by decide +kernel
theorem dX5_copy_134 : decode cX5_copy 134 = .ok (.getfield 16, 3) := by decide +kernel
theorem dX5_copy_137 : decode cX5_copy 137 = .ok (.iload 7, 2) := by decide +kernel
theorem dX5_copy_139 : decode cX5_copy 139 = .ok (.iload 9, 2) := by decide +kernel
theorem dX5_copy_141 : decode cX5_copy 141 = .ok (.iadd, 1) := by decide +kernel
theorem dX5_copy_142 : decode cX5_copy 142 = .ok (.aload_n 0, 1) := by decide +kernel
theorem dX5_copy_143 : decode cX5_copy 143 = .ok (.getfield 16, 3) := by decide +kernel
theorem dX5_copy_146 : decode cX5_copy 146 = .ok (.iload 6, 2) := by decide +kernel
theorem dX5_copy_148 : decode cX5_copy 148 = .ok (.iload 9, 2) := by decide +kernel
theorem dX5_copy_150 : decode cX5_copy 150 = .ok (.iadd, 1) := by decide +kernel
theorem dX5_copy_151 : decode cX5_copy 151 = .ok (.laload, 1) := by decide +kernel
theorem dX5_copy_152 : decode cX5_copy 152 = .ok (.lastore, 1) := by decide +kernel
theorem dX5_copy_153 : decode cX5_copy 153 = .ok (.aload_n 0, 1) := by decide +kernel
theorem dX5_copy_154 : decode cX5_copy 154 = .ok (.getfield 20, 3) := by decide +kernel
theorem dX5_copy_157 : decode cX5_copy 157 = .ok (.iload 7, 2) := by decide +kernel
theorem dX5_copy_159 : decode cX5_copy 159 = .ok (.iload 9, 2) := by decide +kernel
theorem dX5_copy_161 : decode cX5_copy 161 = .ok (.iadd, 1) := by decide +kernel
theorem dX5_copy_162 : decode cX5_copy 162 = .ok (.aload_n 0, 1) := by decide +kernel
theorem dX5_copy_163 : decode cX5_copy 163 = .ok (.getfield 20, 3) := by decide +kernel
theorem dX5_copy_166 : decode cX5_copy 166 = .ok (.iload 6, 2) := by decide +kernel
theorem dX5_copy_168 : decode cX5_copy 168 = .ok (.iload 9, 2) := by decide +kernel
theorem dX5_copy_170 : decode cX5_copy 170 = .ok (.iadd, 1) := by decide +kernel
theorem dX5_copy_171 : decode cX5_copy 171 = .ok (.daload, 1) := by decide +kernel
theorem dX5_copy_172 : decode cX5_copy 172 = .ok (.dastore, 1) := by decide +kernel
theorem dX5_copy_173 : decode cX5_copy 173 = .ok (.aload_n 0, 1) := by decide +kernel
theorem dX5_copy_174 : decode cX5_copy 174 = .ok (.getfield 24, 3) := by decide +kernel
theorem dX5_copy_177 : decode cX5_copy 177 = .ok (.iload 7, 2) := by decide +kernel
theorem dX5_copy_179 : decode cX5_copy 179 = .ok (.iload 9, 2) := by decide +kernel
theorem dX5_copy_181 : decode cX5_copy 181 = .ok (.iadd, 1) := by decide +kernel
theorem dX5_copy_182 : decode cX5_copy 182 = .ok (.aload_n 0, 1) := by decide +kernel
theorem dX5_copy_183 : decode cX5_copy 183 = .ok (.getfield 24, 3) := by decide +kernel
theorem dX5_copy_186 : decode cX5_copy 186 = .ok (.iload 6, 2) := by decide +kernel
theorem dX5_copy_188 : decode cX5_copy 188 = .ok (.iload 9, 2) := by decide +kernel
theorem dX5_copy_190 : decode cX5_copy 190 = .ok (.iadd, 1) := by decide +kernel
theorem dX5_copy_191 : decode cX5_copy 191 = .ok (.iaload, 1) := by decide +kernel
theorem dX5_copy_192 : decode cX5_copy 192 = .ok (.iastore, 1) := by decide +kernel
theorem dX5_copy_193 : decode cX5_copy 193 = .ok (.iinc 8 1, 3) := by decide +kernel
theorem dX5_copy_196 : decode cX5_copy 196 = .ok (.goto (-91), 3) := by decide +kernel
theorem dX5_copy_199 : decode cX5_copy 199 = .ok (.iload 5, 2) := by decide +kernel
theorem dX5_copy_201 : decode cX5_copy 201 = .ok (.ireturn, 1) := by decide +kernel
theorem dX5_look_0 : decode cX5_look 0 = .ok (.aload_n 0, 1) := by decide +kernel
theorem dX5_look_1 : decode cX5_look 1 = .ok (.iconst 0, 1) := by decide +kernel
theorem dX5_look_2 : decode cX5_look 2 = .ok (.putfield 54, 3) := by decide +kernel
theorem dX5_look_5 : decode cX5_look 5 = .ok (.iload_n 1, 1) := by decide +kernel
theorem dX5_look_6 : decode cX5_look 6 = .ok (.invokestatic 64, 3) := by decide +kernel
theorem dX5_look_9 : decode cX5_look 9 = .ok (.ifCond .eq 15, 3) := by decide +kernel
theorem dX5_look_12 : decode cX5_look 12 = .ok (.iload_n 2, 1) := by decide +kernel
theorem dX5_look_13 : decode cX5_look 13 = .ok (.i2l, 1) := by decide +kernel
theorem dX5_look_14 : decode cX5_look 14 = .ok (.lconst 0, 1) := by decide +kernel
theorem dX5_look_15 : decode cX5_look 15 = .ok (.ldc2_w 110, 3) := by decide +kernel
theorem dX5_look_18 : decode cX5_look 18 = .ok (.invokestatic 60, 3) := by decide +kernel
theorem dX5_look_21 : decode cX5_look 21 = .ok (.ifCond .ne 7, 3) := by decide +kernel
theorem dX5_look_24 : decode cX5_look 24 = .ok (.ldc2_w 112, 3) := by decide +kernel
theorem dX5_look_27 : decode cX5_look 27 = .ok (.lreturn, 1) := by decide +kernel
theorem dX5_look_28 : decode cX5_look 28 = .ok (.aload_n 0, 1) := by decide +kernel
theorem dX5_look_29 : decode cX5_look 29 = .ok (.iload_n 1, 1) := by decide +kernel
theorem dX5_look_30 : decode cX5_look 30 = .ok (.invokevirtual 70, 3) := by decide +kernel
theorem dX5_look_33 : decode cX5_look 33 = .ok (.ifCond .ne 7, 3) := by decide +kernel
theorem dX5_look_36 : decode cX5_look 36 = .ok (.ldc2_w 114, 3) := by decide +kernel
theorem dX5_look_39 : decode cX5_look 39 = .ok (.lreturn, 1) := by decide +kernel
theorem dX5_look_40 : decode cX5_look 40 = .ok (.aload_n 0, 1) := by decide +kernel
theorem dX5_look_41 : decode cX5_look 41 = .ok (.getfield 7, 3) := by decide +kernel
theorem dX5_look_44 : decode cX5_look 44 = .ok (.iload_n 1, 1) := by decide +kernel
theorem dX5_look_45 : decode cX5_look 45 = .ok (.iaload, 1) := by decide +kernel
theorem dX5_look_46 : decode cX5_look 46 = .ok (.iload_n 2, 1) := by decide +kernel
theorem dX5_look_47 : decode cX5_look 47 = .ok (.if_icmp .eq 7, 3) := by decide +kernel
theorem dX5_look_50 : decode cX5_look 50 = .ok (.ldc2_w 116, 3) := by decide +kernel
theorem dX5_look_53 : decode cX5_look 53 = .ok (.lreturn, 1) := by decide +kernel
theorem dX5_look_54 : decode cX5_look 54 = .ok (.aload_n 0, 1) := by decide +kernel
theorem dX5_look_55 : decode cX5_look 55 = .ok (.iload_n 1, 1) := by decide +kernel
theorem dX5_look_56 : decode cX5_look 56 = .ok (.iload_n 3, 1) := by decide +kernel
theorem dX5_look_57 : decode cX5_look 57 = .ok (.invokevirtual 85, 3) := by decide +kernel
theorem dX5_look_60 : decode cX5_look 60 = .ok (.ifCond .eq 17, 3) := by decide +kernel
theorem dX5_look_63 : decode cX5_look 63 = .ok (.aload_n 0, 1) := by decide +kernel
theorem dX5_look_64 : decode cX5_look 64 = .ok (.getfield 16, 3) := by decide +kernel
theorem dX5_look_67 : decode cX5_look 67 = .ok (.bipush 40, 2) := by decide +kernel
theorem dX5_look_69 : decode cX5_look 69 = .ok (.iload_n 1, 1) := by decide +kernel
theorem dX5_look_70 : decode cX5_look 70 = .ok (.imul, 1) := by decide +kernel
theorem dX5_look_71 : decode cX5_look 71 = .ok (.iload_n 3, 1) := by decide +kernel
theorem dX5_look_72 : decode cX5_look 72 = .ok (.iadd, 1) := by decide +kernel
theorem dX5_look_73 : decode cX5_look 73 = .ok (.laload, 1) := by decide +kernel
theorem dX5_look_74 : decode cX5_look 74 = .ok (.goto 6, 3) := by decide +kernel
theorem dX5_look_77 : decode cX5_look 77 = .ok (.ldc2_w 118, 3) := by decide +kernel
theorem dX5_look_80 : decode cX5_look 80 = .ok (.lreturn, 1) := by decide +kernel
theorem dX5_valueOf_0 : decode cX5_valueOf 0 = .ok (.aload_n 0, 1) := by decide +kernel
theorem dX5_valueOf_1 : decode cX5_valueOf 1 = .ok (.iload_n 1, 1) := by decide +kernel
theorem dX5_valueOf_2 : decode cX5_valueOf 2 = .ok (.invokevirtual 99, 3) := by decide +kernel
theorem dX5_valueOf_5 : decode cX5_valueOf 5 = .ok (.ifCond .ne 11, 3) := by decide +kernel
theorem dX5_valueOf_8 : decode cX5_valueOf 8 = .ok (.aload_n 0, 1) := by decide +kernel
theorem dX5_valueOf_9 : decode cX5_valueOf 9 = .ok (.getfield 16, 3) := by decide +kernel
theorem dX5_valueOf_12 : decode cX5_valueOf 12 = .ok (.iload_n 2, 1) := by decide +kernel
theorem dX5_valueOf_13 : decode cX5_valueOf 13 = .ok (.laload, 1) := by decide +kernel
theorem dX5_valueOf_14 : decode cX5_valueOf 14 = .ok (.l2d, 1) := by decide +kernel
theorem dX5_valueOf_15 : decode cX5_valueOf 15 = .ok (.dreturn, 1) := by decide +kernel
theorem dX5_valueOf_16 : decode cX5_valueOf 16 = .ok (.aload_n 0, 1) := by decide +kernel
theorem dX5_valueOf_17 : decode cX5_valueOf 17 = .ok (.getfield 24, 3) := by decide +kernel
theorem dX5_valueOf_20 : decode cX5_valueOf 20 = .ok (.iload_n 2, 1) := by decide +kernel
theorem dX5_valueOf_21 : decode cX5_valueOf 21 = .ok (.iaload, 1) := by decide +kernel
theorem dX5_valueOf_22 : decode cX5_valueOf 22 = .ok (.iconst 1, 1) := by decide +kernel
theorem dX5_valueOf_23 : decode cX5_valueOf 23 = .ok (.if_icmp .ne 9, 3) := by decide +kernel
theorem dX5_valueOf_26 : decode cX5_valueOf 26 = .ok (.ldc2_w 122, 3) := by decide +kernel
theorem dX5_valueOf_29 : decode cX5_valueOf 29 = .ok (.goto 25, 3) := by decide +kernel
theorem dX5_valueOf_32 : decode cX5_valueOf 32 = .ok (.aload_n 0, 1) := by decide +kernel
theorem dX5_valueOf_33 : decode cX5_valueOf 33 = .ok (.getfield 24, 3) := by decide +kernel
theorem dX5_valueOf_36 : decode cX5_valueOf 36 = .ok (.iload_n 2, 1) := by decide +kernel
theorem dX5_valueOf_37 : decode cX5_valueOf 37 = .ok (.iaload, 1) := by decide +kernel
theorem dX5_valueOf_38 : decode cX5_valueOf 38 = .ok (.iconst 2, 1) := by decide +kernel
theorem dX5_valueOf_39 : decode cX5_valueOf 39 = .ok (.if_icmp .ne 9, 3) := by decide +kernel
theorem dX5_valueOf_42 : decode cX5_valueOf 42 = .ok (.ldc2_w 124, 3) := by decide +kernel
theorem dX5_valueOf_45 : decode cX5_valueOf 45 = .ok (.goto 9, 3) := by decide +kernel
theorem dX5_valueOf_48 : decode cX5_valueOf 48 = .ok (.aload_n 0, 1) := by decide +kernel
theorem dX5_valueOf_49 : decode cX5_valueOf 49 = .ok (.getfield 20, 3) := by decide +kernel
theorem dX5_valueOf_52 : decode cX5_valueOf 52 = .ok (.iload_n 2, 1) := by decide +kernel
theorem dX5_valueOf_53 : decode cX5_valueOf 53 = .ok (.daload, 1) := by decide +kernel
theorem dX5_valueOf_54 : decode cX5_valueOf 54 = .ok (.dreturn, 1) := by decide +kernel
theorem dX5_see_0 : decode cX5_see 0 = .ok (.aload_n 0, 1) := by decide +kernel
theorem dX5_see_1 : decode cX5_see 1 = .ok (.iconst 0, 1) := by decide +kernel
theorem dX5_see_2 : decode cX5_see 2 = .ok (.putfield 54, 3) := by decide +kernel
theorem dX5_see_5 : decode cX5_see 5 = .ok (.iload_n 1, 1) := by decide +kernel
theorem dX5_see_6 : decode cX5_see 6 = .ok (.invokestatic 64, 3) := by decide +kernel
theorem dX5_see_9 : decode cX5_see 9 = .ok (.ifCond .eq 28, 3) := by decide +kernel
theorem dX5_see_12 : decode cX5_see 12 = .ok (.aload_n 0, 1) := by decide +kernel
theorem dX5_see_13 : decode cX5_see 13 = .ok (.iload_n 1, 1) := by decide +kernel
theorem dX5_see_14 : decode cX5_see 14 = .ok (.invokevirtual 70, 3) := by decide +kernel
theorem dX5_see_17 : decode cX5_see 17 = .ok (.ifCond .eq 20, 3) := by decide +kernel
theorem dX5_see_20 : decode cX5_see 20 = .ok (.aload_n 0, 1) := by decide +kernel
theorem dX5_see_21 : decode cX5_see 21 = .ok (.iload_n 1, 1) := by decide +kernel
theorem dX5_see_22 : decode cX5_see 22 = .ok (.invokevirtual 99, 3) := by decide +kernel
theorem dX5_see_25 : decode cX5_see 25 = .ok (.ifCond .eq 12, 3) := by decide +kernel
theorem dX5_see_28 : decode cX5_see 28 = .ok (.aload_n 0, 1) := by decide +kernel
theorem dX5_see_29 : decode cX5_see 29 = .ok (.iload_n 1, 1) := by decide +kernel
theorem dX5_see_30 : decode cX5_see 30 = .ok (.iload_n 2, 1) := by decide +kernel
theorem dX5_see_31 : decode cX5_see 31 = .ok (.invokevirtual 85, 3) := by decide +kernel
theorem dX5_see_34 : decode cX5_see 34 = .ok (.ifCond .ne 5, 3) := by decide +kernel
theorem dX5_see_37 : decode cX5_see 37 = .ok (.dconst 0, 1) := by decide +kernel
theorem dX5_see_38 : decode cX5_see 38 = .ok (.dreturn, 1) := by decide +kernel
theorem dX5_see_39 : decode cX5_see 39 = .ok (.aload_n 0, 1) := by decide +kernel
theorem dX5_see_40 : decode cX5_see 40 = .ok (.iload_n 1, 1) := by decide +kernel
theorem dX5_see_41 : decode cX5_see 41 = .ok (.bipush 40, 2) := by decide +kernel
theorem dX5_see_43 : decode cX5_see 43 = .ok (.iload_n 1, 1) := by decide +kernel
theorem dX5_see_44 : decode cX5_see 44 = .ok (.imul, 1) := by decide +kernel
theorem dX5_see_45 : decode cX5_see 45 = .ok (.iload_n 2, 1) := by decide +kernel
theorem dX5_see_46 : decode cX5_see 46 = .ok (.iadd, 1) := by decide +kernel
theorem dX5_see_47 : decode cX5_see 47 = .ok (.invokevirtual 126, 3) := by decide +kernel
theorem dX5_see_50 : decode cX5_see 50 = .ok (.dreturn, 1) := by decide +kernel
theorem dX5_compare_0 : decode cX5_compare 0 = .ok (.aload_n 0, 1) := by decide +kernel
theorem dX5_compare_1 : decode cX5_compare 1 = .ok (.iconst 0, 1) := by decide +kernel
theorem dX5_compare_2 : decode cX5_compare 2 = .ok (.putfield 54, 3) := by decide +kernel
theorem dX5_compare_5 : decode cX5_compare 5 = .ok (.iload_n 1, 1) := by decide +kernel
theorem dX5_compare_6 : decode cX5_compare 6 = .ok (.invokestatic 64, 3) := by decide +kernel
theorem dX5_compare_9 : decode cX5_compare 9 = .ok (.ifCond .ne 6, 3) := by decide +kernel
theorem dX5_compare_12 : decode cX5_compare 12 = .ok (.bipush (-3), 2) := by decide +kernel
theorem dX5_compare_14 : decode cX5_compare 14 = .ok (.ireturn, 1) := by decide +kernel
theorem dX5_compare_15 : decode cX5_compare 15 = .ok (.aload_n 0, 1) := by decide +kernel
theorem dX5_compare_16 : decode cX5_compare 16 = .ok (.iload_n 1, 1) := by decide +kernel
theorem dX5_compare_17 : decode cX5_compare 17 = .ok (.invokevirtual 70, 3) := by decide +kernel
theorem dX5_compare_20 : decode cX5_compare 20 = .ok (.ifCond .ne 6, 3) := by decide +kernel
theorem dX5_compare_23 : decode cX5_compare 23 = .ok (.bipush (-11), 2) := by decide +kernel
theorem dX5_compare_25 : decode cX5_compare 25 = .ok (.ireturn, 1) := by decide +kernel
theorem dX5_compare_26 : decode cX5_compare 26 = .ok (.aload_n 0, 1) := by decide +kernel
theorem dX5_compare_27 : decode cX5_compare 27 = .ok (.iload_n 1, 1) := by decide +kernel
theorem dX5_compare_28 : decode cX5_compare 28 = .ok (.iload_n 2, 1) := by decide +kernel
theorem dX5_compare_29 : decode cX5_compare 29 = .ok (.invokevirtual 85, 3) := by decide +kernel
theorem dX5_compare_32 : decode cX5_compare 32 = .ok (.ifCond .ne 6, 3) := by decide +kernel
theorem dX5_compare_35 : decode cX5_compare 35 = .ok (.bipush (-13), 2) := by decide +kernel
theorem dX5_compare_37 : decode cX5_compare 37 = .ok (.ireturn, 1) := by decide +kernel
theorem dX5_compare_38 : decode cX5_compare 38 = .ok (.bipush 40, 2) := by decide +kernel
theorem dX5_compare_40 : decode cX5_compare 40 = .ok (.iload_n 1, 1) := by decide +kernel
theorem dX5_compare_41 : decode cX5_compare 41 = .ok (.imul, 1) := by decide +kernel
theorem dX5_compare_42 : decode cX5_compare 42 = .ok (.iload_n 2, 1) := by decide +kernel
theorem dX5_compare_43 : decode cX5_compare 43 = .ok (.iadd, 1) := by decide +kernel
theorem dX5_compare_44 : decode cX5_compare 44 = .ok (.istore 5, 2) := by decide +kernel
theorem dX5_compare_46 : decode cX5_compare 46 = .ok (.aload_n 0, 1) := by decide +kernel
theorem dX5_compare_47 : decode cX5_compare 47 = .ok (.iload_n 1, 1) := by decide +kernel
theorem dX5_compare_48 : decode cX5_compare 48 = .ok (.invokevirtual 99, 3) := by decide +kernel
theorem dX5_compare_51 : decode cX5_compare 51 = .ok (.ifCond .eq 16, 3) := by decide +kernel
theorem dX5_compare_54 : decode cX5_compare 54 = .ok (.aload_n 0, 1) := by decide +kernel
theorem dX5_compare_55 : decode cX5_compare 55 = .ok (.getfield 24, 3) := by decide +kernel
theorem dX5_compare_58 : decode cX5_compare 58 = .ok (.iload 5, 2) := by decide +kernel
theorem dX5_compare_60 : decode cX5_compare 60 = .ok (.iaload, 1) := by decide +kernel
theorem dX5_compare_61 : decode cX5_compare 61 = .ok (.iconst 3, 1) := by decide +kernel
theorem dX5_compare_62 : decode cX5_compare 62 = .ok (.if_icmp .ne 5, 3) := by decide +kernel
theorem dX5_compare_65 : decode cX5_compare 65 = .ok (.iconst 0, 1) := by decide +kernel
theorem dX5_compare_66 : decode cX5_compare 66 = .ok (.ireturn, 1) := by decide +kernel
theorem dX5_compare_67 : decode cX5_compare 67 = .ok (.aload_n 0, 1) := by decide +kernel
theorem dX5_compare_68 : decode cX5_compare 68 = .ok (.iload_n 1, 1) := by decide +kernel
theorem dX5_compare_69 : decode cX5_compare 69 = .ok (.iload 5, 2) := by decide +kernel
theorem dX5_compare_71 : decode cX5_compare 71 = .ok (.invokevirtual 126, 3) := by decide +kernel
theorem dX5_compare_74 : decode cX5_compare 74 = .ok (.dstore 6, 2) := by decide +kernel
theorem dX5_compare_76 : decode cX5_compare 76 = .ok (.dload 6, 2) := by decide +kernel
theorem dX5_compare_78 : decode cX5_compare 78 = .ok (.dload_n 3, 1) := by decide +kernel
theorem dX5_compare_79 : decode cX5_compare 79 = .ok (.dcmp .g, 1) := by decide +kernel
theorem dX5_compare_80 : decode cX5_compare 80 = .ok (.ifCond .ge 7, 3) := by decide +kernel
theorem dX5_compare_83 : decode cX5_compare 83 = .ok (.iconst 1, 1) := by decide +kernel
theorem dX5_compare_84 : decode cX5_compare 84 = .ok (.goto 26, 3) := by decide +kernel
theorem dX5_compare_87 : decode cX5_compare 87 = .ok (.dload 6, 2) := by decide +kernel
theorem dX5_compare_89 : decode cX5_compare 89 = .ok (.dload_n 3, 1) := by decide +kernel
theorem dX5_compare_90 : decode cX5_compare 90 = .ok (.dcmp .l, 1) := by decide +kernel
theorem dX5_compare_91 : decode cX5_compare 91 = .ok (.ifCond .ne 7, 3) := by decide +kernel
theorem dX5_compare_94 : decode cX5_compare 94 = .ok (.iconst 2, 1) := by decide +kernel
theorem dX5_compare_95 : decode cX5_compare 95 = .ok (.goto 15, 3) := by decide +kernel
theorem dX5_compare_98 : decode cX5_compare 98 = .ok (.dload 6, 2) := by decide +kernel
theorem dX5_compare_100 : decode cX5_compare 100 = .ok (.dload_n 3, 1) := by decide +kernel
theorem dX5_compare_101 : decode cX5_compare 101 = .ok (.dcmp .l, 1) := by decide +kernel
theorem dX5_compare_102 : decode cX5_compare 102 = .ok (.ifCond .le 7, 3) := by decide +kernel
theorem dX5_compare_105 : decode cX5_compare 105 = .ok (.iconst 3, 1) := by decide +kernel
theorem dX5_compare_106 : decode cX5_compare 106 = .ok (.goto 4, 3) := by decide +kernel
theorem dX5_compare_109 : decode cX5_compare 109 = .ok (.iconst 0, 1) := by decide +kernel
theorem dX5_compare_110 : decode cX5_compare 110 = .ok (.ireturn, 1) := by decide +kernel
theorem dX5_isKeeper_0 : decode cX5_isKeeper 0 = .ok (.iload_n 0, 1) := by decide +kernel
theorem dX5_isKeeper_1 : decode cX5_isKeeper 1 = .ok (.i2l, 1) := by decide +kernel
theorem dX5_isKeeper_2 : decode cX5_isKeeper 2 = .ok (.lconst 0, 1) := by decide +kernel
theorem dX5_isKeeper_3 : decode cX5_isKeeper 3 = .ok (.ldc2_w 68, 3) := by decide +kernel
theorem dX5_isKeeper_6 : decode cX5_isKeeper 6 = .ok (.invokestatic 60, 3) := by decide +kernel
theorem dX5_isKeeper_9 : decode cX5_isKeeper 9 = .ok (.ireturn, 1) := by decide +kernel
theorem dX5_keep_0 : decode cX5_keep 0 = .ok (.aload_n 0, 1) := by decide +kernel
theorem dX5_keep_1 : decode cX5_keep 1 = .ok (.getfield 130, 3) := by decide +kernel
theorem dX5_keep_4 : decode cX5_keep 4 = .ok (.istore_n 2, 1) := by decide +kernel
theorem dX5_keep_5 : decode cX5_keep 5 = .ok (.aload_n 0, 1) := by decide +kernel
theorem dX5_keep_6 : decode cX5_keep 6 = .ok (.getfield 36, 3) := by decide +kernel
theorem dX5_keep_9 : decode cX5_keep 9 = .ok (.iload_n 2, 1) := by decide +kernel
theorem dX5_keep_10 : decode cX5_keep 10 = .ok (.iload_n 1, 1) := by decide +kernel
theorem dX5_keep_11 : decode cX5_keep 11 = .ok (.iastore, 1) := by decide +kernel
theorem dX5_keep_12 : decode cX5_keep 12 = .ok (.aload_n 0, 1) := by decide +kernel
theorem dX5_keep_13 : decode cX5_keep 13 = .ok (.getfield 39, 3) := by decide +kernel
theorem dX5_keep_16 : decode cX5_keep 16 = .ok (.iload_n 2, 1) := by decide +kernel
theorem dX5_keep_17 : decode cX5_keep 17 = .ok (.aload_n 0, 1) := by decide +kernel
theorem dX5_keep_18 : decode cX5_keep 18 = .ok (.getfield 27, 3) := by decide +kernel
theorem dX5_keep_21 : decode cX5_keep 21 = .ok (.iload_n 1, 1) := by decide +kernel
theorem dX5_keep_22 : decode cX5_keep 22 = .ok (.iaload, 1) := by decide +kernel
theorem dX5_keep_23 : decode cX5_keep 23 = .ok (.iastore, 1) := by decide +kernel
theorem dX5_keep_24 : decode cX5_keep 24 = .ok (.iconst 0, 1) := by decide +kernel
theorem dX5_keep_25 : decode cX5_keep 25 = .ok (.istore_n 3, 1) := by decide +kernel
theorem dX5_keep_26 : decode cX5_keep 26 = .ok (.iload_n 3, 1) := by decide +kernel
theorem dX5_keep_27 : decode cX5_keep 27 = .ok (.sipush 152, 3) := by decide +kernel
theorem dX5_keep_30 : decode cX5_keep 30 = .ok (.if_icmp .ge 33, 3) := by decide +kernel
theorem dX5_keep_33 : decode cX5_keep 33 = .ok (.aload_n 0, 1) := by decide +kernel
theorem dX5_keep_34 : decode cX5_keep 34 = .ok (.getfield 42, 3) := by decide +kernel
theorem dX5_keep_37 : decode cX5_keep 37 = .ok (.sipush 152, 3) := by decide +kernel
theorem dX5_keep_40 : decode cX5_keep 40 = .ok (.iload_n 2, 1) := by decide +kernel
theorem dX5_keep_41 : decode cX5_keep 41 = .ok (.imul, 1) := by decide +kernel
theorem dX5_keep_42 : decode cX5_keep 42 = .ok (.iload_n 3, 1) := by decide +kernel
theorem dX5_keep_43 : decode cX5_keep 43 = .ok (.iadd, 1) := by decide +kernel
theorem dX5_keep_44 : decode cX5_keep 44 = .ok (.aload_n 0, 1) := by decide +kernel
theorem dX5_keep_45 : decode cX5_keep 45 = .ok (.getfield 30, 3) := by decide +kernel
theorem dX5_keep_48 : decode cX5_keep 48 = .ok (.sipush 152, 3) := by decide +kernel
theorem dX5_keep_51 : decode cX5_keep 51 = .ok (.iload_n 1, 1) := by decide +kernel
theorem dX5_keep_52 : decode cX5_keep 52 = .ok (.imul, 1) := by decide +kernel
theorem dX5_keep_53 : decode cX5_keep 53 = .ok (.iload_n 3, 1) := by decide +kernel
theorem dX5_keep_54 : decode cX5_keep 54 = .ok (.iadd, 1) := by decide +kernel
theorem dX5_keep_55 : decode cX5_keep 55 = .ok (.iaload, 1) := by decide +kernel
theorem dX5_keep_56 : decode cX5_keep 56 = .ok (.iastore, 1) := by decide +kernel
theorem dX5_keep_57 : decode cX5_keep 57 = .ok (.iinc 3 1, 3) := by decide +kernel
theorem dX5_keep_60 : decode cX5_keep 60 = .ok (.goto (-34), 3) := by decide +kernel
theorem dX5_keep_63 : decode cX5_keep 63 = .ok (.iconst 0, 1) := by decide +kernel
theorem dX5_keep_64 : decode cX5_keep 64 = .ok (.istore_n 3, 1) := by decide +kernel
theorem dX5_keep_65 : decode cX5_keep 65 = .ok (.iload_n 3, 1) := by decide +kernel
theorem dX5_keep_66 : decode cX5_keep 66 = .ok (.iconst 3, 1) := by decide +kernel
theorem dX5_keep_67 : decode cX5_keep 67 = .ok (.if_icmp .ge 29, 3) := by decide +kernel
theorem dX5_keep_70 : decode cX5_keep 70 = .ok (.aload_n 0, 1) := by decide +kernel
theorem dX5_keep_71 : decode cX5_keep 71 = .ok (.getfield 45, 3) := by decide +kernel
theorem dX5_keep_74 : decode cX5_keep 74 = .ok (.iconst 3, 1) := by decide +kernel
theorem dX5_keep_75 : decode cX5_keep 75 = .ok (.iload_n 2, 1) := by decide +kernel
theorem dX5_keep_76 : decode cX5_keep 76 = .ok (.imul, 1) := by decide +kernel
theorem dX5_keep_77 : decode cX5_keep 77 = .ok (.iload_n 3, 1) := by decide +kernel
theorem dX5_keep_78 : decode cX5_keep 78 = .ok (.iadd, 1) := by decide +kernel
theorem dX5_keep_79 : decode cX5_keep 79 = .ok (.aload_n 0, 1) := by decide +kernel
theorem dX5_keep_80 : decode cX5_keep 80 = .ok (.getfield 33, 3) := by decide +kernel
theorem dX5_keep_83 : decode cX5_keep 83 = .ok (.iconst 3, 1) := by decide +kernel
theorem dX5_keep_84 : decode cX5_keep 84 = .ok (.iload_n 1, 1) := by decide +kernel
theorem dX5_keep_85 : decode cX5_keep 85 = .ok (.imul, 1) := by decide +kernel
theorem dX5_keep_86 : decode cX5_keep 86 = .ok (.iload_n 3, 1) := by decide +kernel
theorem dX5_keep_87 : decode cX5_keep 87 = .ok (.iadd, 1) := by decide +kernel
theorem dX5_keep_88 : decode cX5_keep 88 = .ok (.iaload, 1) := by decide +kernel
theorem dX5_keep_89 : decode cX5_keep 89 = .ok (.iastore, 1) := by decide +kernel
theorem dX5_keep_90 : decode cX5_keep 90 = .ok (.iinc 3 1, 3) := by decide +kernel
theorem dX5_keep_93 : decode cX5_keep 93 = .ok (.goto (-28), 3) := by decide +kernel
theorem dX5_keep_96 : decode cX5_keep 96 = .ok (.aload_n 0, 1) := by decide +kernel
theorem dX5_keep_97 : decode cX5_keep 97 = .ok (.iload_n 2, 1) := by decide +kernel
theorem dX5_keep_98 : decode cX5_keep 98 = .ok (.iconst 1, 1) := by decide +kernel
theorem dX5_keep_99 : decode cX5_keep 99 = .ok (.iadd, 1) := by decide +kernel
theorem dX5_keep_100 : decode cX5_keep 100 = .ok (.bipush 12, 2) := by decide +kernel
theorem dX5_keep_102 : decode cX5_keep 102 = .ok (.irem, 1) := by decide +kernel
theorem dX5_keep_103 : decode cX5_keep 103 = .ok (.putfield 130, 3) := by decide +kernel
theorem dX5_keep_106 : decode cX5_keep 106 = .ok (.aload_n 0, 1) := by decide +kernel
theorem dX5_keep_107 : decode cX5_keep 107 = .ok (.aload_n 0, 1) := by decide +kernel
theorem dX5_keep_108 : decode cX5_keep 108 = .ok (.getfield 133, 3) := by decide +kernel
theorem dX5_keep_111 : decode cX5_keep 111 = .ok (.bipush 12, 2) := by decide +kernel
theorem dX5_keep_113 : decode cX5_keep 113 = .ok (.if_icmp .ge 12, 3) := by decide +kernel
theorem dX5_keep_116 : decode cX5_keep 116 = .ok (.aload_n 0, 1) := by decide +kernel
theorem dX5_keep_117 : decode cX5_keep 117 = .ok (.getfield 133, 3) := by decide +kernel
theorem dX5_keep_120 : decode cX5_keep 120 = .ok (.iconst 1, 1) := by decide +kernel
theorem dX5_keep_121 : decode cX5_keep 121 = .ok (.iadd, 1) := by decide +kernel
theorem dX5_keep_122 : decode cX5_keep 122 = .ok (.goto 5, 3) := by decide +kernel
theorem dX5_keep_125 : decode cX5_keep 125 = .ok (.bipush 12, 2) := by decide +kernel
theorem dX5_keep_127 : decode cX5_keep 127 = .ok (.putfield 133, 3) := by decide +kernel
theorem dX5_keep_130 : decode cX5_keep 130 = .ok (.return_, 1) := by decide +kernel
theorem dX5_undo_0 : decode cX5_undo 0 = .ok (.aload_n 0, 1) := by decide +kernel
theorem dX5_undo_1 : decode cX5_undo 1 = .ok (.iconst 0, 1) := by decide +kernel
theorem dX5_undo_2 : decode cX5_undo 2 = .ok (.putfield 54, 3) := by decide +kernel
theorem dX5_undo_5 : decode cX5_undo 5 = .ok (.aload_n 0, 1) := by decide +kernel
theorem dX5_undo_6 : decode cX5_undo 6 = .ok (.getfield 133, 3) := by decide +kernel
theorem dX5_undo_9 : decode cX5_undo 9 = .ok (.ifCond .ne 5, 3) := by decide +kernel
theorem dX5_undo_12 : decode cX5_undo 12 = .ok (.iconst (-1), 1) := by decide +kernel
theorem dX5_undo_13 : decode cX5_undo 13 = .ok (.ireturn, 1) := by decide +kernel
theorem dX5_undo_14 : decode cX5_undo 14 = .ok (.aload_n 0, 1) := by decide +kernel
theorem dX5_undo_15 : decode cX5_undo 15 = .ok (.aload_n 0, 1) := by decide +kernel
theorem dX5_undo_16 : decode cX5_undo 16 = .ok (.getfield 130, 3) := by decide +kernel
theorem dX5_undo_19 : decode cX5_undo 19 = .ok (.bipush 12, 2) := by decide +kernel
theorem dX5_undo_21 : decode cX5_undo 21 = .ok (.iadd, 1) := by decide +kernel
theorem dX5_undo_22 : decode cX5_undo 22 = .ok (.iconst 1, 1) := by decide +kernel
theorem dX5_undo_23 : decode cX5_undo 23 = .ok (.isub, 1) := by decide +kernel
theorem dX5_undo_24 : decode cX5_undo 24 = .ok (.bipush 12, 2) := by decide +kernel
theorem dX5_undo_26 : decode cX5_undo 26 = .ok (.irem, 1) := by decide +kernel
theorem dX5_undo_27 : decode cX5_undo 27 = .ok (.putfield 130, 3) := by decide +kernel
theorem dX5_undo_30 : decode cX5_undo 30 = .ok (.aload_n 0, 1) := by decide +kernel
theorem dX5_undo_31 : decode cX5_undo 31 = .ok (.dup, 1) := by decide +kernel
theorem dX5_undo_32 : decode cX5_undo 32 = .ok (.getfield 133, 3) := by decide +kernel
theorem dX5_undo_35 : decode cX5_undo 35 = .ok (.iconst 1, 1) := by decide +kernel
theorem dX5_undo_36 : decode cX5_undo 36 = .ok (.isub, 1) := by decide +kernel
theorem dX5_undo_37 : decode cX5_undo 37 = .ok (.putfield 133, 3) := by decide +kernel
theorem dX5_undo_40 : decode cX5_undo 40 = .ok (.aload_n 0, 1) := by decide +kernel
theorem dX5_undo_41 : decode cX5_undo 41 = .ok (.getfield 130, 3) := by decide +kernel
theorem dX5_undo_44 : decode cX5_undo 44 = .ok (.istore_n 1, 1) := by decide +kernel
theorem dX5_undo_45 : decode cX5_undo 45 = .ok (.aload_n 0, 1) := by decide +kernel
theorem dX5_undo_46 : decode cX5_undo 46 = .ok (.getfield 36, 3) := by decide +kernel
theorem dX5_undo_49 : decode cX5_undo 49 = .ok (.iload_n 1, 1) := by decide +kernel
theorem dX5_undo_50 : decode cX5_undo 50 = .ok (.iaload, 1) := by decide +kernel
theorem dX5_undo_51 : decode cX5_undo 51 = .ok (.istore_n 2, 1) := by decide +kernel
theorem dX5_undo_52 : decode cX5_undo 52 = .ok (.aload_n 0, 1) := by decide +kernel
theorem dX5_undo_53 : decode cX5_undo 53 = .ok (.getfield 27, 3) := by decide +kernel
theorem dX5_undo_56 : decode cX5_undo 56 = .ok (.iload_n 2, 1) := by decide +kernel
theorem dX5_undo_57 : decode cX5_undo 57 = .ok (.aload_n 0, 1) := by decide +kernel
theorem dX5_undo_58 : decode cX5_undo 58 = .ok (.getfield 39, 3) := by decide +kernel
theorem dX5_undo_61 : decode cX5_undo 61 = .ok (.iload_n 1, 1) := by decide +kernel
theorem dX5_undo_62 : decode cX5_undo 62 = .ok (.iaload, 1) := by decide +kernel
theorem dX5_undo_63 : decode cX5_undo 63 = .ok (.iastore, 1) := by decide +kernel
theorem dX5_undo_64 : decode cX5_undo 64 = .ok (.iconst 0, 1) := by decide +kernel
theorem dX5_undo_65 : decode cX5_undo 65 = .ok (.istore_n 3, 1) := by decide +kernel
theorem dX5_undo_66 : decode cX5_undo 66 = .ok (.iload_n 3, 1) := by decide +kernel
theorem dX5_undo_67 : decode cX5_undo 67 = .ok (.sipush 152, 3) := by decide +kernel
theorem dX5_undo_70 : decode cX5_undo 70 = .ok (.if_icmp .ge 33, 3) := by decide +kernel
theorem dX5_undo_73 : decode cX5_undo 73 = .ok (.aload_n 0, 1) := by decide +kernel
theorem dX5_undo_74 : decode cX5_undo 74 = .ok (.getfield 30, 3) := by decide +kernel
theorem dX5_undo_77 : decode cX5_undo 77 = .ok (.sipush 152, 3) := by decide +kernel
theorem dX5_undo_80 : decode cX5_undo 80 = .ok (.iload_n 2, 1) := by decide +kernel
theorem dX5_undo_81 : decode cX5_undo 81 = .ok (.imul, 1) := by decide +kernel
theorem dX5_undo_82 : decode cX5_undo 82 = .ok (.iload_n 3, 1) := by decide +kernel
theorem dX5_undo_83 : decode cX5_undo 83 = .ok (.iadd, 1) := by decide +kernel
theorem dX5_undo_84 : decode cX5_undo 84 = .ok (.aload_n 0, 1) := by decide +kernel
theorem dX5_undo_85 : decode cX5_undo 85 = .ok (.getfield 42, 3) := by decide +kernel
theorem dX5_undo_88 : decode cX5_undo 88 = .ok (.sipush 152, 3) := by decide +kernel
theorem dX5_undo_91 : decode cX5_undo 91 = .ok (.iload_n 1, 1) := by decide +kernel
theorem dX5_undo_92 : decode cX5_undo 92 = .ok (.imul, 1) := by decide +kernel
theorem dX5_undo_93 : decode cX5_undo 93 = .ok (.iload_n 3, 1) := by decide +kernel
theorem dX5_undo_94 : decode cX5_undo 94 = .ok (.iadd, 1) := by decide +kernel
theorem dX5_undo_95 : decode cX5_undo 95 = .ok (.iaload, 1) := by decide +kernel
theorem dX5_undo_96 : decode cX5_undo 96 = .ok (.iastore, 1) := by decide +kernel
theorem dX5_undo_97 : decode cX5_undo 97 = .ok (.iinc 3 1, 3) := by decide +kernel
theorem dX5_undo_100 : decode cX5_undo 100 = .ok (.goto (-34), 3) := by decide +kernel
theorem dX5_undo_103 : decode cX5_undo 103 = .ok (.iconst 0, 1) := by decide +kernel
theorem dX5_undo_104 : decode cX5_undo 104 = .ok (.istore_n 3, 1) := by decide +kernel
theorem dX5_undo_105 : decode cX5_undo 105 = .ok (.iload_n 3, 1) := by decide +kernel
theorem dX5_undo_106 : decode cX5_undo 106 = .ok (.iconst 3, 1) := by decide +kernel
theorem dX5_undo_107 : decode cX5_undo 107 = .ok (.if_icmp .ge 29, 3) := by decide +kernel
theorem dX5_undo_110 : decode cX5_undo 110 = .ok (.aload_n 0, 1) := by decide +kernel
theorem dX5_undo_111 : decode cX5_undo 111 = .ok (.getfield 33, 3) := by decide +kernel
theorem dX5_undo_114 : decode cX5_undo 114 = .ok (.iconst 3, 1) := by decide +kernel
theorem dX5_undo_115 : decode cX5_undo 115 = .ok (.iload_n 2, 1) := by decide +kernel
theorem dX5_undo_116 : decode cX5_undo 116 = .ok (.imul, 1) := by decide +kernel
theorem dX5_undo_117 : decode cX5_undo 117 = .ok (.iload_n 3, 1) := by decide +kernel
theorem dX5_undo_118 : decode cX5_undo 118 = .ok (.iadd, 1) := by decide +kernel
theorem dX5_undo_119 : decode cX5_undo 119 = .ok (.aload_n 0, 1) := by decide +kernel
theorem dX5_undo_120 : decode cX5_undo 120 = .ok (.getfield 45, 3) := by decide +kernel
theorem dX5_undo_123 : decode cX5_undo 123 = .ok (.iconst 3, 1) := by decide +kernel
theorem dX5_undo_124 : decode cX5_undo 124 = .ok (.iload_n 1, 1) := by decide +kernel
theorem dX5_undo_125 : decode cX5_undo 125 = .ok (.imul, 1) := by decide +kernel
theorem dX5_undo_126 : decode cX5_undo 126 = .ok (.iload_n 3, 1) := by decide +kernel
theorem dX5_undo_127 : decode cX5_undo 127 = .ok (.iadd, 1) := by decide +kernel
theorem dX5_undo_128 : decode cX5_undo 128 = .ok (.iaload, 1) := by decide +kernel
theorem dX5_undo_129 : decode cX5_undo 129 = .ok (.iastore, 1) := by decide +kernel
theorem dX5_undo_130 : decode cX5_undo 130 = .ok (.iinc 3 1, 3) := by decide +kernel
theorem dX5_undo_133 : decode cX5_undo 133 = .ok (.goto (-28), 3) := by decide +kernel
theorem dX5_undo_136 : decode cX5_undo 136 = .ok (.iload_n 2, 1) := by decide +kernel
theorem dX5_undo_137 : decode cX5_undo 137 = .ok (.ireturn, 1) := by decide +kernel
theorem dX5_blank_0 : decode cX5_blank 0 = .ok (.iconst 0, 1) := by decide +kernel
theorem dX5_blank_1 : decode cX5_blank 1 = .ok (.istore_n 2, 1) := by decide +kernel
theorem dX5_blank_2 : decode cX5_blank 2 = .ok (.iload_n 2, 1) := by decide +kernel
theorem dX5_blank_3 : decode cX5_blank 3 = .ok (.sipush 152, 3) := by decide +kernel
theorem dX5_blank_6 : decode cX5_blank 6 = .ok (.if_icmp .ge 22, 3) := by decide +kernel
theorem dX5_blank_9 : decode cX5_blank 9 = .ok (.aload_n 0, 1) := by decide +kernel
theorem dX5_blank_10 : decode cX5_blank 10 = .ok (.getfield 30, 3) := by decide +kernel
theorem dX5_blank_13 : decode cX5_blank 13 = .ok (.sipush 152, 3) := by decide +kernel
theorem dX5_blank_16 : decode cX5_blank 16 = .ok (.iload_n 1, 1) := by decide +kernel
theorem dX5_blank_17 : decode cX5_blank 17 = .ok (.imul, 1) := by decide +kernel
theorem dX5_blank_18 : decode cX5_blank 18 = .ok (.iload_n 2, 1) := by decide +kernel
theorem dX5_blank_19 : decode cX5_blank 19 = .ok (.iadd, 1) := by decide +kernel
theorem dX5_blank_20 : decode cX5_blank 20 = .ok (.iconst 0, 1) := by decide +kernel
theorem dX5_blank_21 : decode cX5_blank 21 = .ok (.iastore, 1) := by decide +kernel
theorem dX5_blank_22 : decode cX5_blank 22 = .ok (.iinc 2 1, 3) := by decide +kernel
theorem dX5_blank_25 : decode cX5_blank 25 = .ok (.goto (-23), 3) := by decide +kernel
theorem dX5_blank_28 : decode cX5_blank 28 = .ok (.iconst 0, 1) := by decide +kernel
theorem dX5_blank_29 : decode cX5_blank 29 = .ok (.istore_n 2, 1) := by decide +kernel
theorem dX5_blank_30 : decode cX5_blank 30 = .ok (.iload_n 2, 1) := by decide +kernel
theorem dX5_blank_31 : decode cX5_blank 31 = .ok (.iconst 3, 1) := by decide +kernel
theorem dX5_blank_32 : decode cX5_blank 32 = .ok (.if_icmp .ge 20, 3) := by decide +kernel
theorem dX5_blank_35 : decode cX5_blank 35 = .ok (.aload_n 0, 1) := by decide +kernel
theorem dX5_blank_36 : decode cX5_blank 36 = .ok (.getfield 33, 3) := by decide +kernel
theorem dX5_blank_39 : decode cX5_blank 39 = .ok (.iconst 3, 1) := by decide +kernel
theorem dX5_blank_40 : decode cX5_blank 40 = .ok (.iload_n 1, 1) := by decide +kernel
theorem dX5_blank_41 : decode cX5_blank 41 = .ok (.imul, 1) := by decide +kernel
theorem dX5_blank_42 : decode cX5_blank 42 = .ok (.iload_n 2, 1) := by decide +kernel
theorem dX5_blank_43 : decode cX5_blank 43 = .ok (.iadd, 1) := by decide +kernel
theorem dX5_blank_44 : decode cX5_blank 44 = .ok (.iconst 0, 1) := by decide +kernel
theorem dX5_blank_45 : decode cX5_blank 45 = .ok (.iastore, 1) := by decide +kernel
theorem dX5_blank_46 : decode cX5_blank 46 = .ok (.iinc 2 1, 3) := by decide +kernel
theorem dX5_blank_49 : decode cX5_blank 49 = .ok (.goto (-19), 3) := by decide +kernel
theorem dX5_blank_52 : decode cX5_blank 52 = .ok (.return_, 1) := by decide +kernel
theorem dX5_keeper_0 : decode cX5_keeper 0 = .ok (.aload_n 0, 1) := by decide +kernel
theorem dX5_keeper_1 : decode cX5_keeper 1 = .ok (.iconst 0, 1) := by decide +kernel
theorem dX5_keeper_2 : decode cX5_keeper 2 = .ok (.putfield 54, 3) := by decide +kernel
theorem dX5_keeper_5 : decode cX5_keeper 5 = .ok (.iload_n 1, 1) := by decide +kernel
theorem dX5_keeper_6 : decode cX5_keeper 6 = .ok (.invokestatic 136, 3) := by decide +kernel
theorem dX5_keeper_9 : decode cX5_keeper 9 = .ok (.ifCond .eq 15, 3) := by decide +kernel
theorem dX5_keeper_12 : decode cX5_keeper 12 = .ok (.iload_n 2, 1) := by decide +kernel
theorem dX5_keeper_13 : decode cX5_keeper 13 = .ok (.i2l, 1) := by decide +kernel
theorem dX5_keeper_14 : decode cX5_keeper 14 = .ok (.lconst 0, 1) := by decide +kernel
theorem dX5_keeper_15 : decode cX5_keeper 15 = .ok (.ldc2_w 139, 3) := by decide +kernel
theorem dX5_keeper_18 : decode cX5_keeper 18 = .ok (.invokestatic 60, 3) := by decide +kernel
theorem dX5_keeper_21 : decode cX5_keeper 21 = .ok (.ifCond .ne 6, 3) := by decide +kernel
theorem dX5_keeper_24 : decode cX5_keeper 24 = .ok (.bipush (-3), 2) := by decide +kernel
theorem dX5_keeper_26 : decode cX5_keeper 26 = .ok (.ireturn, 1) := by decide +kernel
theorem dX5_keeper_27 : decode cX5_keeper 27 = .ok (.aload_n 0, 1) := by decide +kernel
theorem dX5_keeper_28 : decode cX5_keeper 28 = .ok (.iload_n 1, 1) := by decide +kernel
theorem dX5_keeper_29 : decode cX5_keeper 29 = .ok (.invokevirtual 141, 3) := by decide +kernel
theorem dX5_keeper_32 : decode cX5_keeper 32 = .ok (.aload_n 0, 1) := by decide +kernel
theorem dX5_keeper_33 : decode cX5_keeper 33 = .ok (.getfield 27, 3) := by decide +kernel
theorem dX5_keeper_36 : decode cX5_keeper 36 = .ok (.iload_n 1, 1) := by decide +kernel
theorem dX5_keeper_37 : decode cX5_keeper 37 = .ok (.iload_n 2, 1) := by decide +kernel
theorem dX5_keeper_38 : decode cX5_keeper 38 = .ok (.iastore, 1) := by decide +kernel
theorem dX5_keeper_39 : decode cX5_keeper 39 = .ok (.aload_n 0, 1) := by decide +kernel
theorem dX5_keeper_40 : decode cX5_keeper 40 = .ok (.iload_n 1, 1) := by decide +kernel
theorem dX5_keeper_41 : decode cX5_keeper 41 = .ok (.invokevirtual 145, 3) := by decide +kernel
theorem dX5_keeper_44 : decode cX5_keeper 44 = .ok (.iconst 0, 1) := by decide +kernel
theorem dX5_keeper_45 : decode cX5_keeper 45 = .ok (.ireturn, 1) := by decide +kernel
theorem dX5_see__0 : decode cX5_see_ 0 = .ok (.aload_n 0, 1) := by decide +kernel
theorem dX5_see__1 : decode cX5_see_ 1 = .ok (.getfield 33, 3) := by decide +kernel
theorem dX5_see__4 : decode cX5_see_ 4 = .ok (.iconst 3, 1) := by decide +kernel
theorem dX5_see__5 : decode cX5_see_ 5 = .ok (.iload_n 1, 1) := by decide +kernel
theorem dX5_see__6 : decode cX5_see_ 6 = .ok (.imul, 1) := by decide +kernel
theorem dX5_see__7 : decode cX5_see_ 7 = .ok (.iload_n 2, 1) := by decide +kernel
theorem dX5_see__8 : decode cX5_see_ 8 = .ok (.iadd, 1) := by decide +kernel
theorem dX5_see__9 : decode cX5_see_ 9 = .ok (.iaload, 1) := by decide +kernel
theorem dX5_see__10 : decode cX5_see_ 10 = .ok (.i2l, 1) := by decide +kernel
theorem dX5_see__11 : decode cX5_see_ 11 = .ok (.iload_n 3, 1) := by decide +kernel
theorem dX5_see__12 : decode cX5_see_ 12 = .ok (.i2l, 1) := by decide +kernel
theorem dX5_see__13 : decode cX5_see_ 13 = .ok (.ladd, 1) := by decide +kernel
theorem dX5_see__14 : decode cX5_see_ 14 = .ok (.lstore 4, 2) := by decide +kernel
theorem dX5_see__16 : decode cX5_see_ 16 = .ok (.aload_n 0, 1) := by decide +kernel
theorem dX5_see__17 : decode cX5_see_ 17 = .ok (.getfield 33, 3) := by decide +kernel
theorem dX5_see__20 : decode cX5_see_ 20 = .ok (.iconst 3, 1) := by decide +kernel
theorem dX5_see__21 : decode cX5_see_ 21 = .ok (.iload_n 1, 1) := by decide +kernel
theorem dX5_see__22 : decode cX5_see_ 22 = .ok (.imul, 1) := by decide +kernel
theorem dX5_see__23 : decode cX5_see_ 23 = .ok (.iload_n 2, 1) := by decide +kernel
theorem dX5_see__24 : decode cX5_see_ 24 = .ok (.iadd, 1) := by decide +kernel
theorem dX5_see__25 : decode cX5_see_ 25 = .ok (.lload 4, 2) := by decide +kernel
theorem dX5_see__27 : decode cX5_see_ 27 = .ok (.ldc2_w 148, 3) := by decide +kernel
theorem dX5_see__30 : decode cX5_see_ 30 = .ok (.lcmp, 1) := by decide +kernel
theorem dX5_see__31 : decode cX5_see_ 31 = .ok (.ifCond .le 9, 3) := by decide +kernel
theorem dX5_see__34 : decode cX5_see_ 34 = .ok (.ldc2_w 148, 3) := by decide +kernel
theorem dX5_see__37 : decode cX5_see_ 37 = .ok (.goto 5, 3) := by decide +kernel
theorem dX5_see__40 : decode cX5_see_ 40 = .ok (.lload 4, 2) := by decide +kernel
theorem dX5_see__42 : decode cX5_see_ 42 = .ok (.l2i, 1) := by decide +kernel
theorem dX5_see__43 : decode cX5_see_ 43 = .ok (.iastore, 1) := by decide +kernel
theorem dX5_see__44 : decode cX5_see_ 44 = .ok (.return_, 1) := by decide +kernel
theorem dX5_carry_0 : decode cX5_carry 0 = .ok (.aload_n 0, 1) := by decide +kernel
theorem dX5_carry_1 : decode cX5_carry 1 = .ok (.getfield 30, 3) := by decide +kernel
theorem dX5_carry_4 : decode cX5_carry 4 = .ok (.iload_n 1, 1) := by decide +kernel
theorem dX5_carry_5 : decode cX5_carry 5 = .ok (.iaload, 1) := by decide +kernel
theorem dX5_carry_6 : decode cX5_carry 6 = .ok (.i2l, 1) := by decide +kernel
theorem dX5_carry_7 : decode cX5_carry 7 = .ok (.ldc2_w 150, 3) := by decide +kernel
theorem dX5_carry_10 : decode cX5_carry 10 = .ok (.land, 1) := by decide +kernel
theorem dX5_carry_11 : decode cX5_carry 11 = .ok (.lload_n 2, 1) := by decide +kernel
theorem dX5_carry_12 : decode cX5_carry 12 = .ok (.ladd, 1) := by decide +kernel
theorem dX5_carry_13 : decode cX5_carry 13 = .ok (.lload 4, 2) := by decide +kernel
theorem dX5_carry_15 : decode cX5_carry 15 = .ok (.ladd, 1) := by decide +kernel
theorem dX5_carry_16 : decode cX5_carry 16 = .ok (.lstore 6, 2) := by decide +kernel
theorem dX5_carry_18 : decode cX5_carry 18 = .ok (.aload_n 0, 1) := by decide +kernel
theorem dX5_carry_19 : decode cX5_carry 19 = .ok (.getfield 30, 3) := by decide +kernel
theorem dX5_carry_22 : decode cX5_carry 22 = .ok (.iload_n 1, 1) := by decide +kernel
theorem dX5_carry_23 : decode cX5_carry 23 = .ok (.lload 6, 2) := by decide +kernel
theorem dX5_carry_25 : decode cX5_carry 25 = .ok (.l2i, 1) := by decide +kernel
theorem dX5_carry_26 : decode cX5_carry 26 = .ok (.iastore, 1) := by decide +kernel
theorem dX5_carry_27 : decode cX5_carry 27 = .ok (.lload 6, 2) := by decide +kernel
theorem dX5_carry_29 : decode cX5_carry 29 = .ok (.bipush 32, 2) := by decide +kernel
theorem dX5_carry_31 : decode cX5_carry 31 = .ok (.lushr, 1) := by decide +kernel
theorem dX5_carry_32 : decode cX5_carry 32 = .ok (.lreturn, 1) := by decide +kernel
theorem dX5_addBits_0 : decode cX5_addBits 0 = .ok (.iload 6, 2) := by decide +kernel
theorem dX5_addBits_2 : decode cX5_addBits 2 = .ok (.sipush 2148, 3) := by decide +kernel
theorem dX5_addBits_5 : decode cX5_addBits 5 = .ok (.iadd, 1) := by decide +kernel
theorem dX5_addBits_6 : decode cX5_addBits 6 = .ok (.istore 8, 2) := by decide +kernel
theorem dX5_addBits_8 : decode cX5_addBits 8 = .ok (.iload 8, 2) := by decide +kernel
theorem dX5_addBits_10 : decode cX5_addBits 10 = .ok (.bipush 32, 2) := by decide +kernel
theorem dX5_addBits_12 : decode cX5_addBits 12 = .ok (.idiv, 1) := by decide +kernel
theorem dX5_addBits_13 : decode cX5_addBits 13 = .ok (.istore 9, 2) := by decide +kernel
theorem dX5_addBits_15 : decode cX5_addBits 15 = .ok (.iload 8, 2) := by decide +kernel
theorem dX5_addBits_17 : decode cX5_addBits 17 = .ok (.bipush 32, 2) := by decide +kernel
theorem dX5_addBits_19 : decode cX5_addBits 19 = .ok (.irem, 1) := by decide +kernel
theorem dX5_addBits_20 : decode cX5_addBits 20 = .ok (.istore 10, 2) := by decide +kernel
theorem dX5_addBits_22 : decode cX5_addBits 22 = .ok (.iload 7, 2) := by decide +kernel
theorem dX5_addBits_24 : decode cX5_addBits 24 = .ok (.ifCond .eq 7, 3) := by decide +kernel
theorem dX5_addBits_27 : decode cX5_addBits 27 = .ok (.lconst 1, 1) := by decide +kernel
theorem dX5_addBits_28 : decode cX5_addBits 28 = .ok (.goto 4, 3) := by decide +kernel
theorem dX5_addBits_31 : decode cX5_addBits 31 = .ok (.lconst 0, 1) := by decide +kernel
theorem dX5_addBits_32 : decode cX5_addBits 32 = .ok (.lstore 11, 2) := by decide +kernel
theorem dX5_addBits_34 : decode cX5_addBits 34 = .ok (.iconst 0, 1) := by decide +kernel
theorem dX5_addBits_35 : decode cX5_addBits 35 = .ok (.istore 13, 2) := by decide +kernel
theorem dX5_addBits_37 : decode cX5_addBits 37 = .ok (.iload 13, 2) := by decide +kernel
theorem dX5_addBits_39 : decode cX5_addBits 39 = .ok (.sipush 152, 3) := by decide +kernel
theorem dX5_addBits_42 : decode cX5_addBits 42 = .ok (.if_icmp .ge 150, 3) := by decide +kernel
theorem dX5_addBits_45 : decode cX5_addBits 45 = .ok (.lconst 0, 1) := by decide +kernel
theorem dX5_addBits_46 : decode cX5_addBits 46 = .ok (.lstore 14, 2) := by decide +kernel
theorem dX5_addBits_48 : decode cX5_addBits 48 = .ok (.iconst 0, 1) := by decide +kernel
theorem dX5_addBits_49 : decode cX5_addBits 49 = .ok (.istore 16, 2) := by decide +kernel
theorem dX5_addBits_51 : decode cX5_addBits 51 = .ok (.iload 16, 2) := by decide +kernel
theorem dX5_addBits_53 : decode cX5_addBits 53 = .ok (.bipush 32, 2) := by decide +kernel
theorem dX5_addBits_55 : decode cX5_addBits 55 = .ok (.if_icmp .ge 95, 3) := by decide +kernel
theorem dX5_addBits_58 : decode cX5_addBits 58 = .ok (.iload 13, 2) := by decide +kernel
theorem dX5_addBits_60 : decode cX5_addBits 60 = .ok (.iload 9, 2) := by decide +kernel
theorem dX5_addBits_62 : decode cX5_addBits 62 = .ok (.if_icmp .lt 88, 3) := by decide +kernel
theorem dX5_addBits_65 : decode cX5_addBits 65 = .ok (.iload 13, 2) := by decide +kernel
theorem dX5_addBits_67 : decode cX5_addBits 67 = .ok (.iload 9, 2) := by decide +kernel
theorem dX5_addBits_69 : decode cX5_addBits 69 = .ok (.iconst 5, 1) := by decide +kernel
theorem dX5_addBits_70 : decode cX5_addBits 70 = .ok (.iadd, 1) := by decide +kernel
theorem dX5_addBits_71 : decode cX5_addBits 71 = .ok (.if_icmp .ge 79, 3) := by decide +kernel
theorem dX5_addBits_74 : decode cX5_addBits 74 = .ok (.bipush 32, 2) := by decide +kernel
theorem dX5_addBits_76 : decode cX5_addBits 76 = .ok (.iload 13, 2) := by decide +kernel
theorem dX5_addBits_78 : decode cX5_addBits 78 = .ok (.iload 9, 2) := by decide +kernel
theorem dX5_addBits_80 : decode cX5_addBits 80 = .ok (.isub, 1) := by decide +kernel
theorem dX5_addBits_81 : decode cX5_addBits 81 = .ok (.imul, 1) := by decide +kernel
theorem dX5_addBits_82 : decode cX5_addBits 82 = .ok (.iload 16, 2) := by decide +kernel
theorem dX5_addBits_84 : decode cX5_addBits 84 = .ok (.iadd, 1) := by decide +kernel
theorem dX5_addBits_85 : decode cX5_addBits 85 = .ok (.iload 10, 2) := by decide +kernel
theorem dX5_addBits_87 : decode cX5_addBits 87 = .ok (.isub, 1) := by decide +kernel
theorem dX5_addBits_88 : decode cX5_addBits 88 = .ok (.istore 17, 2) := by decide +kernel
theorem dX5_addBits_90 : decode cX5_addBits 90 = .ok (.iload 17, 2) := by decide +kernel
theorem dX5_addBits_92 : decode cX5_addBits 92 = .ok (.ifCond .lt 10, 3) := by decide +kernel
theorem dX5_addBits_95 : decode cX5_addBits 95 = .ok (.iload 17, 2) := by decide +kernel
theorem dX5_addBits_97 : decode cX5_addBits 97 = .ok (.bipush 127, 2) := by decide +kernel
theorem dX5_addBits_99 : decode cX5_addBits 99 = .ok (.if_icmp .le 7, 3) := by decide +kernel
theorem dX5_addBits_102 : decode cX5_addBits 102 = .ok (.lconst 0, 1) := by decide +kernel
theorem dX5_addBits_103 : decode cX5_addBits 103 = .ok (.goto 29, 3) := by decide +kernel
theorem dX5_addBits_106 : decode cX5_addBits 106 = .ok (.iload 17, 2) := by decide +kernel
theorem dX5_addBits_108 : decode cX5_addBits 108 = .ok (.bipush 64, 2) := by decide +kernel
theorem dX5_addBits_110 : decode cX5_addBits 110 = .ok (.if_icmp .ge 13, 3) := by decide +kernel
theorem dX5_addBits_113 : decode cX5_addBits 113 = .ok (.lload 4, 2) := by decide +kernel
theorem dX5_addBits_115 : decode cX5_addBits 115 = .ok (.iload 17, 2) := by decide +kernel
theorem dX5_addBits_117 : decode cX5_addBits 117 = .ok (.lushr, 1) := by decide +kernel
theorem dX5_addBits_118 : decode cX5_addBits 118 = .ok (.lconst 1, 1) := by decide +kernel
theorem dX5_addBits_119 : decode cX5_addBits 119 = .ok (.land, 1) := by decide +kernel
theorem dX5_addBits_120 : decode cX5_addBits 120 = .ok (.goto 12, 3) := by decide +kernel
theorem dX5_addBits_123 : decode cX5_addBits 123 = .ok (.lload_n 2, 1) := by decide +kernel
theorem dX5_addBits_124 : decode cX5_addBits 124 = .ok (.iload 17, 2) := by decide +kernel
theorem dX5_addBits_126 : decode cX5_addBits 126 = .ok (.bipush 64, 2) := by decide +kernel
theorem dX5_addBits_128 : decode cX5_addBits 128 = .ok (.isub, 1) := by decide +kernel
theorem dX5_addBits_129 : decode cX5_addBits 129 = .ok (.lushr, 1) := by decide +kernel
theorem dX5_addBits_130 : decode cX5_addBits 130 = .ok (.lconst 1, 1) := by decide +kernel
theorem dX5_addBits_131 : decode cX5_addBits 131 = .ok (.land, 1) := by decide +kernel
theorem dX5_addBits_132 : decode cX5_addBits 132 = .ok (.lstore 18, 2) := by decide +kernel
theorem dX5_addBits_134 : decode cX5_addBits 134 = .ok (.lload 14, 2) := by decide +kernel
theorem dX5_addBits_136 : decode cX5_addBits 136 = .ok (.lload 18, 2) := by decide +kernel
theorem dX5_addBits_138 : decode cX5_addBits 138 = .ok (.iload 16, 2) := by decide +kernel
theorem dX5_addBits_140 : decode cX5_addBits 140 = .ok (.lshl, 1) := by decide +kernel
theorem dX5_addBits_141 : decode cX5_addBits 141 = .ok (.lor, 1) := by decide +kernel
theorem dX5_addBits_142 : decode cX5_addBits 142 = .ok (.lstore 14, 2) := by decide +kernel
theorem dX5_addBits_144 : decode cX5_addBits 144 = .ok (.iinc 16 1, 3) := by decide +kernel
theorem dX5_addBits_147 : decode cX5_addBits 147 = .ok (.goto (-96), 3) := by decide +kernel
theorem dX5_addBits_150 : decode cX5_addBits 150 = .ok (.aload_n 0, 1) := by decide +kernel
theorem dX5_addBits_151 : decode cX5_addBits 151 = .ok (.sipush 152, 3) := by decide +kernel
theorem dX5_addBits_154 : decode cX5_addBits 154 = .ok (.iload_n 1, 1) := by decide +kernel
theorem dX5_addBits_155 : decode cX5_addBits 155 = .ok (.imul, 1) := by decide +kernel
theorem dX5_addBits_156 : decode cX5_addBits 156 = .ok (.iload 13, 2) := by decide +kernel
theorem dX5_addBits_158 : decode cX5_addBits 158 = .ok (.iadd, 1) := by decide +kernel
theorem dX5_addBits_159 : decode cX5_addBits 159 = .ok (.iload 7, 2) := by decide +kernel
theorem dX5_addBits_161 : decode cX5_addBits 161 = .ok (.ifCond .eq 16, 3) := by decide +kernel
theorem dX5_addBits_164 : decode cX5_addBits 164 = .ok (.lload 14, 2) := by decide +kernel
theorem dX5_addBits_166 : decode cX5_addBits 166 = .ok (.ldc2_w 152, 3) := by decide +kernel
theorem dX5_addBits_169 : decode cX5_addBits 169 = .ok (.lxor, 1) := by decide +kernel
theorem dX5_addBits_170 : decode cX5_addBits 170 = .ok (.ldc2_w 150, 3) := by decide +kernel
theorem dX5_addBits_173 : decode cX5_addBits 173 = .ok (.land, 1) := by decide +kernel
theorem dX5_addBits_174 : decode cX5_addBits 174 = .ok (.goto 5, 3) := by decide +kernel
theorem dX5_addBits_177 : decode cX5_addBits 177 = .ok (.lload 14, 2) := by decide +kernel
theorem dX5_addBits_179 : decode cX5_addBits 179 = .ok (.lload 11, 2) := by decide +kernel
theorem dX5_addBits_181 : decode cX5_addBits 181 = .ok (.invokevirtual 154, 3) := by decide +kernel
theorem dX5_addBits_184 : decode cX5_addBits 184 = .ok (.lstore 11, 2) := by decide +kernel
theorem dX5_addBits_186 : decode cX5_addBits 186 = .ok (.iinc 13 1, 3) := by decide +kernel
theorem dX5_addBits_189 : decode cX5_addBits 189 = .ok (.goto (-152), 3) := by decide +kernel
theorem dX5_addBits_192 : decode cX5_addBits 192 = .ok (.return_, 1) := by decide +kernel
theorem dX5_apart_0 : decode cX5_apart 0 = .ok (.aload_n 0, 1) := by decide +kernel
theorem dX5_apart_1 : decode cX5_apart 1 = .ok (.iconst 0, 1) := by decide +kernel
theorem dX5_apart_2 : decode cX5_apart 2 = .ok (.putfield 158, 3) := by decide +kernel
theorem dX5_apart_5 : decode cX5_apart 5 = .ok (.aload_n 0, 1) := by decide +kernel
theorem dX5_apart_6 : decode cX5_apart 6 = .ok (.iload_n 1, 1) := by decide +kernel
theorem dX5_apart_7 : decode cX5_apart 7 = .ok (.invokevirtual 99, 3) := by decide +kernel
theorem dX5_apart_10 : decode cX5_apart 10 = .ok (.ifCond .ne 51, 3) := by decide +kernel
theorem dX5_apart_13 : decode cX5_apart 13 = .ok (.aload_n 0, 1) := by decide +kernel
theorem dX5_apart_14 : decode cX5_apart 14 = .ok (.aload_n 0, 1) := by decide +kernel
theorem dX5_apart_15 : decode cX5_apart 15 = .ok (.getfield 16, 3) := by decide +kernel
theorem dX5_apart_18 : decode cX5_apart 18 = .ok (.iload_n 2, 1) := by decide +kernel
theorem dX5_apart_19 : decode cX5_apart 19 = .ok (.laload, 1) := by decide +kernel
theorem dX5_apart_20 : decode cX5_apart 20 = .ok (.lconst 0, 1) := by decide +kernel
theorem dX5_apart_21 : decode cX5_apart 21 = .ok (.lcmp, 1) := by decide +kernel
theorem dX5_apart_22 : decode cX5_apart 22 = .ok (.ifCond .ge 7, 3) := by decide +kernel
theorem dX5_apart_25 : decode cX5_apart 25 = .ok (.iconst 1, 1) := by decide +kernel
theorem dX5_apart_26 : decode cX5_apart 26 = .ok (.goto 4, 3) := by decide +kernel
theorem dX5_apart_29 : decode cX5_apart 29 = .ok (.iconst 0, 1) := by decide +kernel
theorem dX5_apart_30 : decode cX5_apart 30 = .ok (.putfield 161, 3) := by decide +kernel
theorem dX5_apart_33 : decode cX5_apart 33 = .ok (.aload_n 0, 1) := by decide +kernel
theorem dX5_apart_34 : decode cX5_apart 34 = .ok (.aload_n 0, 1) := by decide +kernel
theorem dX5_apart_35 : decode cX5_apart 35 = .ok (.getfield 161, 3) := by decide +kernel
theorem dX5_apart_38 : decode cX5_apart 38 = .ok (.ifCond .eq 13, 3) := by decide +kernel
theorem dX5_apart_41 : decode cX5_apart 41 = .ok (.aload_n 0, 1) := by decide +kernel
theorem dX5_apart_42 : decode cX5_apart 42 = .ok (.getfield 16, 3) := by decide +kernel
theorem dX5_apart_45 : decode cX5_apart 45 = .ok (.iload_n 2, 1) := by decide +kernel
theorem dX5_apart_46 : decode cX5_apart 46 = .ok (.laload, 1) := by decide +kernel
theorem dX5_apart_47 : decode cX5_apart 47 = .ok (.lneg, 1) := by decide +kernel
theorem dX5_apart_48 : decode cX5_apart 48 = .ok (.goto 9, 3) := by decide +kernel
theorem dX5_apart_51 : decode cX5_apart 51 = .ok (.aload_n 0, 1) := by decide +kernel
theorem dX5_apart_52 : decode cX5_apart 52 = .ok (.getfield 16, 3) := by decide +kernel
theorem dX5_apart_55 : decode cX5_apart 55 = .ok (.iload_n 2, 1) := by decide +kernel
theorem dX5_apart_56 : decode cX5_apart 56 = .ok (.laload, 1) := by decide +kernel
theorem dX5_apart_57 : decode cX5_apart 57 = .ok (.putfield 165, 3) := by decide +kernel
theorem dX5_apart_60 : decode cX5_apart 60 = .ok (.return_, 1) := by decide +kernel
theorem dX5_apart_61 : decode cX5_apart 61 = .ok (.aload_n 0, 1) := by decide +kernel
theorem dX5_apart_62 : decode cX5_apart 62 = .ok (.aload_n 0, 1) := by decide +kernel
theorem dX5_apart_63 : decode cX5_apart 63 = .ok (.getfield 20, 3) := by decide +kernel
theorem dX5_apart_66 : decode cX5_apart 66 = .ok (.iload_n 2, 1) := by decide +kernel
theorem dX5_apart_67 : decode cX5_apart 67 = .ok (.daload, 1) := by decide +kernel
theorem dX5_apart_68 : decode cX5_apart 68 = .ok (.invokevirtual 169, 3) := by decide +kernel
theorem dX5_apart_71 : decode cX5_apart 71 = .ok (.return_, 1) := by decide +kernel
theorem dX5_apart__0 : decode cX5_apart_ 0 = .ok (.aload_n 0, 1) := by decide +kernel
theorem dX5_apart__1 : decode cX5_apart_ 1 = .ok (.iconst 0, 1) := by decide +kernel
theorem dX5_apart__2 : decode cX5_apart_ 2 = .ok (.putfield 158, 3) := by decide +kernel
theorem dX5_apart__5 : decode cX5_apart_ 5 = .ok (.aload_n 0, 1) := by decide +kernel
theorem dX5_apart__6 : decode cX5_apart_ 6 = .ok (.dload_n 1, 1) := by decide +kernel
theorem dX5_apart__7 : decode cX5_apart_ 7 = .ok (.dconst 0, 1) := by decide +kernel
theorem dX5_apart__8 : decode cX5_apart_ 8 = .ok (.dcmp .g, 1) := by decide +kernel
theorem dX5_apart__9 : decode cX5_apart_ 9 = .ok (.ifCond .ge 7, 3) := by decide +kernel
theorem dX5_apart__12 : decode cX5_apart_ 12 = .ok (.iconst 1, 1) := by decide +kernel
theorem dX5_apart__13 : decode cX5_apart_ 13 = .ok (.goto 4, 3) := by decide +kernel
theorem dX5_apart__16 : decode cX5_apart_ 16 = .ok (.iconst 0, 1) := by decide +kernel
theorem dX5_apart__17 : decode cX5_apart_ 17 = .ok (.putfield 161, 3) := by decide +kernel
theorem dX5_apart__20 : decode cX5_apart_ 20 = .ok (.aload_n 0, 1) := by decide +kernel
theorem dX5_apart__21 : decode cX5_apart_ 21 = .ok (.getfield 161, 3) := by decide +kernel
theorem dX5_apart__24 : decode cX5_apart_ 24 = .ok (.ifCond .eq 8, 3) := by decide +kernel
theorem dX5_apart__27 : decode cX5_apart_ 27 = .ok (.dload_n 1, 1) := by decide +kernel
theorem dX5_apart__28 : decode cX5_apart_ 28 = .ok (.dneg, 1) := by decide +kernel
theorem dX5_apart__29 : decode cX5_apart_ 29 = .ok (.goto 4, 3) := by decide +kernel
theorem dX5_apart__32 : decode cX5_apart_ 32 = .ok (.dload_n 1, 1) := by decide +kernel
theorem dX5_apart__33 : decode cX5_apart_ 33 = .ok (.dstore_n 3, 1) := by decide +kernel
theorem dX5_apart__34 : decode cX5_apart_ 34 = .ok (.dload_n 3, 1) := by decide +kernel
theorem dX5_apart__35 : decode cX5_apart_ 35 = .ok (.ldc2_w 173, 3) := by decide +kernel
theorem dX5_apart__38 : decode cX5_apart_ 38 = .ok (.dcmp .l, 1) := by decide +kernel
theorem dX5_apart__39 : decode cX5_apart_ 39 = .ok (.ifCond .lt 22, 3) := by decide +kernel
theorem dX5_apart__42 : decode cX5_apart_ 42 = .ok (.dload_n 3, 1) := by decide +kernel
theorem dX5_apart__43 : decode cX5_apart_ 43 = .ok (.ldc2_w 75, 3) := by decide +kernel
theorem dX5_apart__46 : decode cX5_apart_ 46 = .ok (.dmul, 1) := by decide +kernel
theorem dX5_apart__47 : decode cX5_apart_ 47 = .ok (.dstore_n 3, 1) := by decide +kernel
theorem dX5_apart__48 : decode cX5_apart_ 48 = .ok (.aload_n 0, 1) := by decide +kernel
theorem dX5_apart__49 : decode cX5_apart_ 49 = .ok (.dup, 1) := by decide +kernel
theorem dX5_apart__50 : decode cX5_apart_ 50 = .ok (.getfield 158, 3) := by decide +kernel
theorem dX5_apart__53 : decode cX5_apart_ 53 = .ok (.iconst 1, 1) := by decide +kernel
theorem dX5_apart__54 : decode cX5_apart_ 54 = .ok (.iadd, 1) := by decide +kernel
theorem dX5_apart__55 : decode cX5_apart_ 55 = .ok (.putfield 158, 3) := by decide +kernel
theorem dX5_apart__58 : decode cX5_apart_ 58 = .ok (.goto (-24), 3) := by decide +kernel
theorem dX5_apart__61 : decode cX5_apart_ 61 = .ok (.dload_n 3, 1) := by decide +kernel
theorem dX5_apart__62 : decode cX5_apart_ 62 = .ok (.dload_n 3, 1) := by decide +kernel
theorem dX5_apart__63 : decode cX5_apart_ 63 = .ok (.d2l, 1) := by decide +kernel
theorem dX5_apart__64 : decode cX5_apart_ 64 = .ok (.l2d, 1) := by decide +kernel
theorem dX5_apart__65 : decode cX5_apart_ 65 = .ok (.dcmp .l, 1) := by decide +kernel
theorem dX5_apart__66 : decode cX5_apart_ 66 = .ok (.ifCond .eq 22, 3) := by decide +kernel
theorem dX5_apart__69 : decode cX5_apart_ 69 = .ok (.dload_n 3, 1) := by decide +kernel
theorem dX5_apart__70 : decode cX5_apart_ 70 = .ok (.ldc2_w 73, 3) := by decide +kernel
theorem dX5_apart__73 : decode cX5_apart_ 73 = .ok (.dmul, 1) := by decide +kernel
theorem dX5_apart__74 : decode cX5_apart_ 74 = .ok (.dstore_n 3, 1) := by decide +kernel
theorem dX5_apart__75 : decode cX5_apart_ 75 = .ok (.aload_n 0, 1) := by decide +kernel
theorem dX5_apart__76 : decode cX5_apart_ 76 = .ok (.dup, 1) := by decide +kernel
theorem dX5_apart__77 : decode cX5_apart_ 77 = .ok (.getfield 158, 3) := by decide +kernel
theorem dX5_apart__80 : decode cX5_apart_ 80 = .ok (.iconst 1, 1) := by decide +kernel
theorem dX5_apart__81 : decode cX5_apart_ 81 = .ok (.isub, 1) := by decide +kernel
theorem dX5_apart__82 : decode cX5_apart_ 82 = .ok (.putfield 158, 3) := by decide +kernel
theorem dX5_apart__85 : decode cX5_apart_ 85 = .ok (.goto (-24), 3) := by decide +kernel
theorem dX5_apart__88 : decode cX5_apart_ 88 = .ok (.aload_n 0, 1) := by decide +kernel
theorem dX5_apart__89 : decode cX5_apart_ 89 = .ok (.dload_n 3, 1) := by decide +kernel
theorem dX5_apart__90 : decode cX5_apart_ 90 = .ok (.d2l, 1) := by decide +kernel
theorem dX5_apart__91 : decode cX5_apart_ 91 = .ok (.putfield 165, 3) := by decide +kernel
theorem dX5_apart__94 : decode cX5_apart_ 94 = .ok (.return_, 1) := by decide +kernel
theorem dX5_sortOf_0 : decode cX5_sortOf 0 = .ok (.aload_n 0, 1) := by decide +kernel
theorem dX5_sortOf_1 : decode cX5_sortOf 1 = .ok (.iload_n 1, 1) := by decide +kernel
theorem dX5_sortOf_2 : decode cX5_sortOf 2 = .ok (.invokevirtual 99, 3) := by decide +kernel
theorem dX5_sortOf_5 : decode cX5_sortOf 5 = .ok (.ifCond .eq 12, 3) := by decide +kernel
theorem dX5_sortOf_8 : decode cX5_sortOf 8 = .ok (.aload_n 0, 1) := by decide +kernel
theorem dX5_sortOf_9 : decode cX5_sortOf 9 = .ok (.getfield 24, 3) := by decide +kernel
theorem dX5_sortOf_12 : decode cX5_sortOf 12 = .ok (.iload_n 2, 1) := by decide +kernel
theorem dX5_sortOf_13 : decode cX5_sortOf 13 = .ok (.iaload, 1) := by decide +kernel
theorem dX5_sortOf_14 : decode cX5_sortOf 14 = .ok (.goto 4, 3) := by decide +kernel
theorem dX5_sortOf_17 : decode cX5_sortOf 17 = .ok (.iconst 0, 1) := by decide +kernel
theorem dX5_sortOf_18 : decode cX5_sortOf 18 = .ok (.ireturn, 1) := by decide +kernel
theorem dX5_isZero_0 : decode cX5_isZero 0 = .ok (.aload_n 0, 1) := by decide +kernel
theorem dX5_isZero_1 : decode cX5_isZero 1 = .ok (.iload_n 1, 1) := by decide +kernel
theorem dX5_isZero_2 : decode cX5_isZero 2 = .ok (.invokevirtual 99, 3) := by decide +kernel
theorem dX5_isZero_5 : decode cX5_isZero 5 = .ok (.ifCond .eq 31, 3) := by decide +kernel
theorem dX5_isZero_8 : decode cX5_isZero 8 = .ok (.aload_n 0, 1) := by decide +kernel
theorem dX5_isZero_9 : decode cX5_isZero 9 = .ok (.getfield 24, 3) := by decide +kernel
theorem dX5_isZero_12 : decode cX5_isZero 12 = .ok (.iload_n 2, 1) := by decide +kernel
theorem dX5_isZero_13 : decode cX5_isZero 13 = .ok (.iaload, 1) := by decide +kernel
theorem dX5_isZero_14 : decode cX5_isZero 14 = .ok (.ifCond .ne 18, 3) := by decide +kernel
theorem dX5_isZero_17 : decode cX5_isZero 17 = .ok (.aload_n 0, 1) := by decide +kernel
theorem dX5_isZero_18 : decode cX5_isZero 18 = .ok (.getfield 20, 3) := by decide +kernel
theorem dX5_isZero_21 : decode cX5_isZero 21 = .ok (.iload_n 2, 1) := by decide +kernel
theorem dX5_isZero_22 : decode cX5_isZero 22 = .ok (.daload, 1) := by decide +kernel
theorem dX5_isZero_23 : decode cX5_isZero 23 = .ok (.dconst 0, 1) := by decide +kernel
theorem dX5_isZero_24 : decode cX5_isZero 24 = .ok (.dcmp .l, 1) := by decide +kernel
theorem dX5_isZero_25 : decode cX5_isZero 25 = .ok (.ifCond .ne 7, 3) := by decide +kernel
theorem dX5_isZero_28 : decode cX5_isZero 28 = .ok (.iconst 1, 1) := by decide +kernel
theorem dX5_isZero_29 : decode cX5_isZero 29 = .ok (.goto 23, 3) := by decide +kernel
theorem dX5_isZero_32 : decode cX5_isZero 32 = .ok (.iconst 0, 1) := by decide +kernel
theorem dX5_isZero_33 : decode cX5_isZero 33 = .ok (.goto 19, 3) := by decide +kernel
theorem dX5_isZero_36 : decode cX5_isZero 36 = .ok (.aload_n 0, 1) := by decide +kernel
theorem dX5_isZero_37 : decode cX5_isZero 37 = .ok (.getfield 16, 3) := by decide +kernel
theorem dX5_isZero_40 : decode cX5_isZero 40 = .ok (.iload_n 2, 1) := by decide +kernel
theorem dX5_isZero_41 : decode cX5_isZero 41 = .ok (.laload, 1) := by decide +kernel
theorem dX5_isZero_42 : decode cX5_isZero 42 = .ok (.lconst 0, 1) := by decide +kernel
theorem dX5_isZero_43 : decode cX5_isZero 43 = .ok (.lcmp, 1) := by decide +kernel
theorem dX5_isZero_44 : decode cX5_isZero 44 = .ok (.ifCond .ne 7, 3) := by decide +kernel
theorem dX5_isZero_47 : decode cX5_isZero 47 = .ok (.iconst 1, 1) := by decide +kernel
theorem dX5_isZero_48 : decode cX5_isZero 48 = .ok (.goto 4, 3) := by decide +kernel
theorem dX5_isZero_51 : decode cX5_isZero 51 = .ok (.iconst 0, 1) := by decide +kernel
theorem dX5_isZero_52 : decode cX5_isZero 52 = .ok (.ireturn, 1) := by decide +kernel
theorem dX5_isBelow_0 : decode cX5_isBelow 0 = .ok (.aload_n 0, 1) := by decide +kernel
theorem dX5_isBelow_1 : decode cX5_isBelow 1 = .ok (.iload_n 1, 1) := by decide +kernel
theorem dX5_isBelow_2 : decode cX5_isBelow 2 = .ok (.invokevirtual 99, 3) := by decide +kernel
theorem dX5_isBelow_5 : decode cX5_isBelow 5 = .ok (.ifCond .eq 41, 3) := by decide +kernel
theorem dX5_isBelow_8 : decode cX5_isBelow 8 = .ok (.aload_n 0, 1) := by decide +kernel
theorem dX5_isBelow_9 : decode cX5_isBelow 9 = .ok (.getfield 24, 3) := by decide +kernel
theorem dX5_isBelow_12 : decode cX5_isBelow 12 = .ok (.iload_n 2, 1) := by decide +kernel
theorem dX5_isBelow_13 : decode cX5_isBelow 13 = .ok (.iaload, 1) := by decide +kernel
theorem dX5_isBelow_14 : decode cX5_isBelow 14 = .ok (.iconst 2, 1) := by decide +kernel
theorem dX5_isBelow_15 : decode cX5_isBelow 15 = .ok (.if_icmp .eq 23, 3) := by decide +kernel
theorem dX5_isBelow_18 : decode cX5_isBelow 18 = .ok (.aload_n 0, 1) := by decide +kernel
theorem dX5_isBelow_19 : decode cX5_isBelow 19 = .ok (.getfield 24, 3) := by decide +kernel
theorem dX5_isBelow_22 : decode cX5_isBelow 22 = .ok (.iload_n 2, 1) := by decide +kernel
theorem dX5_isBelow_23 : decode cX5_isBelow 23 = .ok (.iaload, 1) := by decide +kernel
theorem dX5_isBelow_24 : decode cX5_isBelow 24 = .ok (.ifCond .ne 18, 3) := by decide +kernel
theorem dX5_isBelow_27 : decode cX5_isBelow 27 = .ok (.aload_n 0, 1) := by decide +kernel
theorem dX5_isBelow_28 : decode cX5_isBelow 28 = .ok (.getfield 20, 3) := by decide +kernel
theorem dX5_isBelow_31 : decode cX5_isBelow 31 = .ok (.iload_n 2, 1) := by decide +kernel
theorem dX5_isBelow_32 : decode cX5_isBelow 32 = .ok (.daload, 1) := by decide +kernel
theorem dX5_isBelow_33 : decode cX5_isBelow 33 = .ok (.dconst 0, 1) := by decide +kernel
theorem dX5_isBelow_34 : decode cX5_isBelow 34 = .ok (.dcmp .g, 1) := by decide +kernel
theorem dX5_isBelow_35 : decode cX5_isBelow 35 = .ok (.ifCond .ge 7, 3) := by decide +kernel
theorem dX5_isBelow_38 : decode cX5_isBelow 38 = .ok (.iconst 1, 1) := by decide +kernel
theorem dX5_isBelow_39 : decode cX5_isBelow 39 = .ok (.goto 23, 3) := by decide +kernel
theorem dX5_isBelow_42 : decode cX5_isBelow 42 = .ok (.iconst 0, 1) := by decide +kernel
theorem dX5_isBelow_43 : decode cX5_isBelow 43 = .ok (.goto 19, 3) := by decide +kernel
theorem dX5_isBelow_46 : decode cX5_isBelow 46 = .ok (.aload_n 0, 1) := by decide +kernel
theorem dX5_isBelow_47 : decode cX5_isBelow 47 = .ok (.getfield 16, 3) := by decide +kernel
theorem dX5_isBelow_50 : decode cX5_isBelow 50 = .ok (.iload_n 2, 1) := by decide +kernel
theorem dX5_isBelow_51 : decode cX5_isBelow 51 = .ok (.laload, 1) := by decide +kernel
theorem dX5_isBelow_52 : decode cX5_isBelow 52 = .ok (.lconst 0, 1) := by decide +kernel
theorem dX5_isBelow_53 : decode cX5_isBelow 53 = .ok (.lcmp, 1) := by decide +kernel
theorem dX5_isBelow_54 : decode cX5_isBelow 54 = .ok (.ifCond .ge 7, 3) := by decide +kernel
theorem dX5_isBelow_57 : decode cX5_isBelow 57 = .ok (.iconst 1, 1) := by decide +kernel
theorem dX5_isBelow_58 : decode cX5_isBelow 58 = .ok (.goto 4, 3) := by decide +kernel
theorem dX5_isBelow_61 : decode cX5_isBelow 61 = .ok (.iconst 0, 1) := by decide +kernel
theorem dX5_isBelow_62 : decode cX5_isBelow 62 = .ok (.ireturn, 1) := by decide +kernel
theorem dX5_endless_0 : decode cX5_endless 0 = .ok (.aload_n 0, 1) := by decide +kernel
theorem dX5_endless_1 : decode cX5_endless 1 = .ok (.iload_n 1, 1) := by decide +kernel
theorem dX5_endless_2 : decode cX5_endless 2 = .ok (.iload_n 2, 1) := by decide +kernel
theorem dX5_endless_3 : decode cX5_endless 3 = .ok (.iload_n 3, 1) := by decide +kernel
theorem dX5_endless_4 : decode cX5_endless 4 = .ok (.if_icmp .eq 7, 3) := by decide +kernel
theorem dX5_endless_7 : decode cX5_endless 7 = .ok (.iconst 2, 1) := by decide +kernel
theorem dX5_endless_8 : decode cX5_endless 8 = .ok (.goto 4, 3) := by decide +kernel
theorem dX5_endless_11 : decode cX5_endless 11 = .ok (.iconst 1, 1) := by decide +kernel
theorem dX5_endless_12 : decode cX5_endless 12 = .ok (.iconst 1, 1) := by decide +kernel
theorem dX5_endless_13 : decode cX5_endless 13 = .ok (.invokevirtual 175, 3) := by decide +kernel
theorem dX5_endless_16 : decode cX5_endless 16 = .ok (.return_, 1) := by decide +kernel
theorem dX5_addPlace_0 : decode cX5_addPlace 0 = .ok (.aload_n 0, 1) := by decide +kernel
theorem dX5_addPlace_1 : decode cX5_addPlace 1 = .ok (.iload_n 2, 1) := by decide +kernel
theorem dX5_addPlace_2 : decode cX5_addPlace 2 = .ok (.iload_n 3, 1) := by decide +kernel
theorem dX5_addPlace_3 : decode cX5_addPlace 3 = .ok (.invokevirtual 179, 3) := by decide +kernel
theorem dX5_addPlace_6 : decode cX5_addPlace 6 = .ok (.istore 5, 2) := by decide +kernel
theorem dX5_addPlace_8 : decode cX5_addPlace 8 = .ok (.iload 5, 2) := by decide +kernel
theorem dX5_addPlace_10 : decode cX5_addPlace 10 = .ok (.iconst 3, 1) := by decide +kernel
theorem dX5_addPlace_11 : decode cX5_addPlace 11 = .ok (.if_icmp .ne 13, 3) := by decide +kernel
theorem dX5_addPlace_14 : decode cX5_addPlace 14 = .ok (.aload_n 0, 1) := by decide +kernel
theorem dX5_addPlace_15 : decode cX5_addPlace 15 = .ok (.iload_n 1, 1) := by decide +kernel
theorem dX5_addPlace_16 : decode cX5_addPlace 16 = .ok (.iconst 0, 1) := by decide +kernel
theorem dX5_addPlace_17 : decode cX5_addPlace 17 = .ok (.iconst 1, 1) := by decide +kernel
theorem dX5_addPlace_18 : decode cX5_addPlace 18 = .ok (.invokevirtual 175, 3) := by decide +kernel
theorem dX5_addPlace_21 : decode cX5_addPlace 21 = .ok (.goto 63, 3) := by decide +kernel
theorem dX5_addPlace_24 : decode cX5_addPlace 24 = .ok (.iload 5, 2) := by decide +kernel
theorem dX5_addPlace_26 : decode cX5_addPlace 26 = .ok (.ifCond .eq 24, 3) := by decide +kernel
theorem dX5_addPlace_29 : decode cX5_addPlace 29 = .ok (.aload_n 0, 1) := by decide +kernel
theorem dX5_addPlace_30 : decode cX5_addPlace 30 = .ok (.iload_n 1, 1) := by decide +kernel
theorem dX5_addPlace_31 : decode cX5_addPlace 31 = .ok (.iload 5, 2) := by decide +kernel
theorem dX5_addPlace_33 : decode cX5_addPlace 33 = .ok (.iconst 2, 1) := by decide +kernel
theorem dX5_addPlace_34 : decode cX5_addPlace 34 = .ok (.if_icmp .ne 7, 3) := by decide +kernel
theorem dX5_addPlace_37 : decode cX5_addPlace 37 = .ok (.iconst 1, 1) := by decide +kernel
theorem dX5_addPlace_38 : decode cX5_addPlace 38 = .ok (.goto 4, 3) := by decide +kernel
theorem dX5_addPlace_41 : decode cX5_addPlace 41 = .ok (.iconst 0, 1) := by decide +kernel
theorem dX5_addPlace_42 : decode cX5_addPlace 42 = .ok (.iload 4, 2) := by decide +kernel
theorem dX5_addPlace_44 : decode cX5_addPlace 44 = .ok (.invokevirtual 183, 3) := by decide +kernel
theorem dX5_addPlace_47 : decode cX5_addPlace 47 = .ok (.goto 37, 3) := by decide +kernel
theorem dX5_addPlace_50 : decode cX5_addPlace 50 = .ok (.aload_n 0, 1) := by decide +kernel
theorem dX5_addPlace_51 : decode cX5_addPlace 51 = .ok (.iload_n 2, 1) := by decide +kernel
theorem dX5_addPlace_52 : decode cX5_addPlace 52 = .ok (.iload_n 3, 1) := by decide +kernel
theorem dX5_addPlace_53 : decode cX5_addPlace 53 = .ok (.invokevirtual 187, 3) := by decide +kernel
theorem dX5_addPlace_56 : decode cX5_addPlace 56 = .ok (.aload_n 0, 1) := by decide +kernel
theorem dX5_addPlace_57 : decode cX5_addPlace 57 = .ok (.iload_n 1, 1) := by decide +kernel
theorem dX5_addPlace_58 : decode cX5_addPlace 58 = .ok (.lconst 0, 1) := by decide +kernel
theorem dX5_addPlace_59 : decode cX5_addPlace 59 = .ok (.aload_n 0, 1) := by decide +kernel
theorem dX5_addPlace_60 : decode cX5_addPlace 60 = .ok (.getfield 165, 3) := by decide +kernel
theorem dX5_addPlace_63 : decode cX5_addPlace 63 = .ok (.aload_n 0, 1) := by decide +kernel
theorem dX5_addPlace_64 : decode cX5_addPlace 64 = .ok (.getfield 158, 3) := by decide +kernel
theorem dX5_addPlace_67 : decode cX5_addPlace 67 = .ok (.aload_n 0, 1) := by decide +kernel
theorem dX5_addPlace_68 : decode cX5_addPlace 68 = .ok (.getfield 161, 3) := by decide +kernel
theorem dX5_addPlace_71 : decode cX5_addPlace 71 = .ok (.iload 4, 2) := by decide +kernel
theorem dX5_addPlace_73 : decode cX5_addPlace 73 = .ok (.if_icmp .eq 7, 3) := by decide +kernel
theorem dX5_addPlace_76 : decode cX5_addPlace 76 = .ok (.iconst 1, 1) := by decide +kernel
theorem dX5_addPlace_77 : decode cX5_addPlace 77 = .ok (.goto 4, 3) := by decide +kernel
theorem dX5_addPlace_80 : decode cX5_addPlace 80 = .ok (.iconst 0, 1) := by decide +kernel
theorem dX5_addPlace_81 : decode cX5_addPlace 81 = .ok (.invokevirtual 190, 3) := by decide +kernel
theorem dX5_addPlace_84 : decode cX5_addPlace 84 = .ok (.return_, 1) := by decide +kernel
theorem dX5_addProduct_0 : decode cX5_addProduct 0 = .ok (.aload_n 0, 1) := by decide +kernel
theorem dX5_addProduct_1 : decode cX5_addProduct 1 = .ok (.iload_n 2, 1) := by decide +kernel
theorem dX5_addProduct_2 : decode cX5_addProduct 2 = .ok (.iload_n 3, 1) := by decide +kernel
theorem dX5_addProduct_3 : decode cX5_addProduct 3 = .ok (.invokevirtual 179, 3) := by decide +kernel
theorem dX5_addProduct_6 : decode cX5_addProduct 6 = .ok (.istore 7, 2) := by decide +kernel
theorem dX5_addProduct_8 : decode cX5_addProduct 8 = .ok (.aload_n 0, 1) := by decide +kernel
theorem dX5_addProduct_9 : decode cX5_addProduct 9 = .ok (.iload 4, 2) := by decide +kernel
theorem dX5_addProduct_11 : decode cX5_addProduct 11 = .ok (.iload 5, 2) := by decide +kernel
theorem dX5_addProduct_13 : decode cX5_addProduct 13 = .ok (.invokevirtual 179, 3) := by decide +kernel
theorem dX5_addProduct_16 : decode cX5_addProduct 16 = .ok (.istore 8, 2) := by decide +kernel
theorem dX5_addProduct_18 : decode cX5_addProduct 18 = .ok (.iload 7, 2) := by decide +kernel
theorem dX5_addProduct_20 : decode cX5_addProduct 20 = .ok (.iconst 3, 1) := by decide +kernel
theorem dX5_addProduct_21 : decode cX5_addProduct 21 = .ok (.if_icmp .eq 39, 3) := by decide +kernel
theorem dX5_addProduct_24 : decode cX5_addProduct 24 = .ok (.iload 8, 2) := by decide +kernel
theorem dX5_addProduct_26 : decode cX5_addProduct 26 = .ok (.iconst 3, 1) := by decide +kernel
theorem dX5_addProduct_27 : decode cX5_addProduct 27 = .ok (.if_icmp .eq 33, 3) := by decide +kernel
theorem dX5_addProduct_30 : decode cX5_addProduct 30 = .ok (.iload 7, 2) := by decide +kernel
theorem dX5_addProduct_32 : decode cX5_addProduct 32 = .ok (.ifCond .eq 14, 3) := by decide +kernel
theorem dX5_addProduct_35 : decode cX5_addProduct 35 = .ok (.aload_n 0, 1) := by decide +kernel
theorem dX5_addProduct_36 : decode cX5_addProduct 36 = .ok (.iload 4, 2) := by decide +kernel
theorem dX5_addProduct_38 : decode cX5_addProduct 38 = .ok (.iload 5, 2) := by decide +kernel
theorem dX5_addProduct_40 : decode cX5_addProduct 40 = .ok (.invokevirtual 194, 3) := by decide +kernel
theorem dX5_addProduct_43 : decode cX5_addProduct 43 = .ok (.ifCond .ne 17, 3) := by decide +kernel
theorem dX5_addProduct_46 : decode cX5_addProduct 46 = .ok (.iload 8, 2) := by decide +kernel
theorem dX5_addProduct_48 : decode cX5_addProduct 48 = .ok (.ifCond .eq 16, 3) := by decide +kernel
theorem dX5_addProduct_51 : decode cX5_addProduct 51 = .ok (.aload_n 0, 1) := by decide +kernel
theorem dX5_addProduct_52 : decode cX5_addProduct 52 = .ok (.iload_n 2, 1) := by decide +kernel
theorem dX5_addProduct_53 : decode cX5_addProduct 53 = .ok (.iload_n 3, 1) := by decide +kernel
theorem dX5_addProduct_54 : decode cX5_addProduct 54 = .ok (.invokevirtual 194, 3) := by decide +kernel
theorem dX5_addProduct_57 : decode cX5_addProduct 57 = .ok (.ifCond .eq 7, 3) := by decide +kernel
theorem dX5_addProduct_60 : decode cX5_addProduct 60 = .ok (.iconst 1, 1) := by decide +kernel
theorem dX5_addProduct_61 : decode cX5_addProduct 61 = .ok (.goto 4, 3) := by decide +kernel
theorem dX5_addProduct_64 : decode cX5_addProduct 64 = .ok (.iconst 0, 1) := by decide +kernel
theorem dX5_addProduct_65 : decode cX5_addProduct 65 = .ok (.istore 9, 2) := by decide +kernel
theorem dX5_addProduct_67 : decode cX5_addProduct 67 = .ok (.iload 9, 2) := by decide +kernel
theorem dX5_addProduct_69 : decode cX5_addProduct 69 = .ok (.ifCond .eq 13, 3) := by decide +kernel
theorem dX5_addProduct_72 : decode cX5_addProduct 72 = .ok (.aload_n 0, 1) := by decide +kernel
theorem dX5_addProduct_73 : decode cX5_addProduct 73 = .ok (.iload_n 1, 1) := by decide +kernel
theorem dX5_addProduct_74 : decode cX5_addProduct 74 = .ok (.iconst 0, 1) := by decide +kernel
theorem dX5_addProduct_75 : decode cX5_addProduct 75 = .ok (.iconst 1, 1) := by decide +kernel
theorem dX5_addProduct_76 : decode cX5_addProduct 76 = .ok (.invokevirtual 175, 3) := by decide +kernel
theorem dX5_addProduct_79 : decode cX5_addProduct 79 = .ok (.goto 165, 3) := by decide +kernel
theorem dX5_addProduct_82 : decode cX5_addProduct 82 = .ok (.iload 7, 2) := by decide +kernel
theorem dX5_addProduct_84 : decode cX5_addProduct 84 = .ok (.ifCond .ne 8, 3) := by decide +kernel
theorem dX5_addProduct_87 : decode cX5_addProduct 87 = .ok (.iload 8, 2) := by decide +kernel
theorem dX5_addProduct_89 : decode cX5_addProduct 89 = .ok (.ifCond .eq 35, 3) := by decide +kernel
theorem dX5_addProduct_92 : decode cX5_addProduct 92 = .ok (.aload_n 0, 1) := by decide +kernel
theorem dX5_addProduct_93 : decode cX5_addProduct 93 = .ok (.iload_n 1, 1) := by decide +kernel
theorem dX5_addProduct_94 : decode cX5_addProduct 94 = .ok (.aload_n 0, 1) := by decide +kernel
theorem dX5_addProduct_95 : decode cX5_addProduct 95 = .ok (.iload_n 2, 1) := by decide +kernel
theorem dX5_addProduct_96 : decode cX5_addProduct 96 = .ok (.iload_n 3, 1) := by decide +kernel
theorem dX5_addProduct_97 : decode cX5_addProduct 97 = .ok (.invokevirtual 197, 3) := by decide +kernel
theorem dX5_addProduct_100 : decode cX5_addProduct 100 = .ok (.aload_n 0, 1) := by decide +kernel
theorem dX5_addProduct_101 : decode cX5_addProduct 101 = .ok (.iload 4, 2) := by decide +kernel
theorem dX5_addProduct_103 : decode cX5_addProduct 103 = .ok (.iload 5, 2) := by decide +kernel
theorem dX5_addProduct_105 : decode cX5_addProduct 105 = .ok (.invokevirtual 197, 3) := by decide +kernel
theorem dX5_addProduct_108 : decode cX5_addProduct 108 = .ok (.if_icmp .eq 7, 3) := by decide +kernel
theorem dX5_addProduct_111 : decode cX5_addProduct 111 = .ok (.iconst 1, 1) := by decide +kernel
theorem dX5_addProduct_112 : decode cX5_addProduct 112 = .ok (.goto 4, 3) := by decide +kernel
theorem dX5_addProduct_115 : decode cX5_addProduct 115 = .ok (.iconst 0, 1) := by decide +kernel
theorem dX5_addProduct_116 : decode cX5_addProduct 116 = .ok (.iload 6, 2) := by decide +kernel
theorem dX5_addProduct_118 : decode cX5_addProduct 118 = .ok (.invokevirtual 183, 3) := by decide +kernel
theorem dX5_addProduct_121 : decode cX5_addProduct 121 = .ok (.goto 123, 3) := by decide +kernel
theorem dX5_addProduct_124 : decode cX5_addProduct 124 = .ok (.aload_n 0, 1) := by decide +kernel
theorem dX5_addProduct_125 : decode cX5_addProduct 125 = .ok (.iload_n 2, 1) := by decide +kernel
theorem dX5_addProduct_126 : decode cX5_addProduct 126 = .ok (.iload_n 3, 1) := by decide +kernel
theorem dX5_addProduct_127 : decode cX5_addProduct 127 = .ok (.invokevirtual 187, 3) := by decide +kernel
theorem dX5_addProduct_130 : decode cX5_addProduct 130 = .ok (.aload_n 0, 1) := by decide +kernel
theorem dX5_addProduct_131 : decode cX5_addProduct 131 = .ok (.getfield 165, 3) := by decide +kernel
theorem dX5_addProduct_134 : decode cX5_addProduct 134 = .ok (.lstore 10, 2) := by decide +kernel
theorem dX5_addProduct_136 : decode cX5_addProduct 136 = .ok (.aload_n 0, 1) := by decide +kernel
theorem dX5_addProduct_137 : decode cX5_addProduct 137 = .ok (.getfield 158, 3) := by decide +kernel
theorem dX5_addProduct_140 : decode cX5_addProduct 140 = .ok (.istore 12, 2) := by decide +kernel
theorem dX5_addProduct_142 : decode cX5_addProduct 142 = .ok (.aload_n 0, 1) := by decide +kernel
theorem dX5_addProduct_143 : decode cX5_addProduct 143 = .ok (.getfield 161, 3) := by decide +kernel
theorem dX5_addProduct_146 : decode cX5_addProduct 146 = .ok (.istore 13, 2) := by decide +kernel
theorem dX5_addProduct_148 : decode cX5_addProduct 148 = .ok (.aload_n 0, 1) := by decide +kernel
theorem dX5_addProduct_149 : decode cX5_addProduct 149 = .ok (.iload 4, 2) := by decide +kernel
theorem dX5_addProduct_151 : decode cX5_addProduct 151 = .ok (.iload 5, 2) := by decide +kernel
theorem dX5_addProduct_153 : decode cX5_addProduct 153 = .ok (.invokevirtual 187, 3) := by decide +kernel
theorem dX5_addProduct_156 : decode cX5_addProduct 156 = .ok (.lload 10, 2) := by decide +kernel
theorem dX5_addProduct_158 : decode cX5_addProduct 158 = .ok (.aload_n 0, 1) := by decide +kernel
theorem dX5_addProduct_159 : decode cX5_addProduct 159 = .ok (.getfield 165, 3) := by decide +kernel
theorem dX5_addProduct_162 : decode cX5_addProduct 162 = .ok (.invokestatic 200, 3) := by decide +kernel
theorem dX5_addProduct_165 : decode cX5_addProduct 165 = .ok (.lload 10, 2) := by decide +kernel
theorem dX5_addProduct_167 : decode cX5_addProduct 167 = .ok (.lconst 0, 1) := by decide +kernel
theorem dX5_addProduct_168 : decode cX5_addProduct 168 = .ok (.lcmp, 1) := by decide +kernel
theorem dX5_addProduct_169 : decode cX5_addProduct 169 = .ok (.ifCond .ge 10, 3) := by decide +kernel
theorem dX5_addProduct_172 : decode cX5_addProduct 172 = .ok (.aload_n 0, 1) := by decide +kernel
theorem dX5_addProduct_173 : decode cX5_addProduct 173 = .ok (.getfield 165, 3) := by decide +kernel
theorem dX5_addProduct_176 : decode cX5_addProduct 176 = .ok (.goto 4, 3) := by decide +kernel
theorem dX5_addProduct_179 : decode cX5_addProduct 179 = .ok (.lconst 0, 1) := by decide +kernel
theorem dX5_addProduct_180 : decode cX5_addProduct 180 = .ok (.ladd, 1) := by decide +kernel
theorem dX5_addProduct_181 : decode cX5_addProduct 181 = .ok (.aload_n 0, 1) := by decide +kernel
theorem dX5_addProduct_182 : decode cX5_addProduct 182 = .ok (.getfield 165, 3) := by decide +kernel
theorem dX5_addProduct_185 : decode cX5_addProduct 185 = .ok (.lconst 0, 1) := by decide +kernel
theorem dX5_addProduct_186 : decode cX5_addProduct 186 = .ok (.lcmp, 1) := by decide +kernel
theorem dX5_addProduct_187 : decode cX5_addProduct 187 = .ok (.ifCond .ge 8, 3) := by decide +kernel
theorem dX5_addProduct_190 : decode cX5_addProduct 190 = .ok (.lload 10, 2) := by decide +kernel
theorem dX5_addProduct_192 : decode cX5_addProduct 192 = .ok (.goto 4, 3) := by decide +kernel
theorem dX5_addProduct_195 : decode cX5_addProduct 195 = .ok (.lconst 0, 1) := by decide +kernel
theorem dX5_addProduct_196 : decode cX5_addProduct 196 = .ok (.ladd, 1) := by decide +kernel
theorem dX5_addProduct_197 : decode cX5_addProduct 197 = .ok (.lstore 14, 2) := by decide +kernel
theorem dX5_addProduct_199 : decode cX5_addProduct 199 = .ok (.aload_n 0, 1) := by decide +kernel
theorem dX5_addProduct_200 : decode cX5_addProduct 200 = .ok (.iload_n 1, 1) := by decide +kernel
theorem dX5_addProduct_201 : decode cX5_addProduct 201 = .ok (.lload 14, 2) := by decide +kernel
theorem dX5_addProduct_203 : decode cX5_addProduct 203 = .ok (.lload 10, 2) := by decide +kernel
theorem dX5_addProduct_205 : decode cX5_addProduct 205 = .ok (.aload_n 0, 1) := by decide +kernel
theorem dX5_addProduct_206 : decode cX5_addProduct 206 = .ok (.getfield 165, 3) := by decide +kernel
theorem dX5_addProduct_209 : decode cX5_addProduct 209 = .ok (.lmul, 1) := by decide +kernel
theorem dX5_addProduct_210 : decode cX5_addProduct 210 = .ok (.iload 12, 2) := by decide +kernel
theorem dX5_addProduct_212 : decode cX5_addProduct 212 = .ok (.aload_n 0, 1) := by decide +kernel
theorem dX5_addProduct_213 : decode cX5_addProduct 213 = .ok (.getfield 158, 3) := by decide +kernel
theorem dX5_addProduct_216 : decode cX5_addProduct 216 = .ok (.iadd, 1) := by decide +kernel
theorem dX5_addProduct_217 : decode cX5_addProduct 217 = .ok (.iload 13, 2) := by decide +kernel
theorem dX5_addProduct_219 : decode cX5_addProduct 219 = .ok (.aload_n 0, 1) := by decide +kernel
theorem dX5_addProduct_220 : decode cX5_addProduct 220 = .ok (.getfield 161, 3) := by decide +kernel
theorem dX5_addProduct_223 : decode cX5_addProduct 223 = .ok (.if_icmp .eq 7, 3) := by decide +kernel
theorem dX5_addProduct_226 : decode cX5_addProduct 226 = .ok (.iconst 1, 1) := by decide +kernel
theorem dX5_addProduct_227 : decode cX5_addProduct 227 = .ok (.goto 4, 3) := by decide +kernel
theorem dX5_addProduct_230 : decode cX5_addProduct 230 = .ok (.iconst 0, 1) := by decide +kernel
theorem dX5_addProduct_231 : decode cX5_addProduct 231 = .ok (.iload 6, 2) := by decide +kernel
theorem dX5_addProduct_233 : decode cX5_addProduct 233 = .ok (.if_icmp .eq 7, 3) := by decide +kernel
theorem dX5_addProduct_236 : decode cX5_addProduct 236 = .ok (.iconst 1, 1) := by decide +kernel
theorem dX5_addProduct_237 : decode cX5_addProduct 237 = .ok (.goto 4, 3) := by decide +kernel
theorem dX5_addProduct_240 : decode cX5_addProduct 240 = .ok (.iconst 0, 1) := by decide +kernel
theorem dX5_addProduct_241 : decode cX5_addProduct 241 = .ok (.invokevirtual 190, 3) := by decide +kernel
theorem dX5_addProduct_244 : decode cX5_addProduct 244 = .ok (.return_, 1) := by decide +kernel
theorem dX5_sizeOf_0 : decode cX5_sizeOf 0 = .ok (.iload_n 0, 1) := by decide +kernel
theorem dX5_sizeOf_1 : decode cX5_sizeOf 1 = .ok (.ifCond .ge 8, 3) := by decide +kernel
theorem dX5_sizeOf_4 : decode cX5_sizeOf 4 = .ok (.iload_n 0, 1) := by decide +kernel
theorem dX5_sizeOf_5 : decode cX5_sizeOf 5 = .ok (.ineg, 1) := by decide +kernel
theorem dX5_sizeOf_6 : decode cX5_sizeOf 6 = .ok (.goto 4, 3) := by decide +kernel
theorem dX5_sizeOf_9 : decode cX5_sizeOf 9 = .ok (.iload_n 0, 1) := by decide +kernel

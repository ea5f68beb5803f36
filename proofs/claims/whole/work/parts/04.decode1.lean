theorem dX0_init_0 : decode cX0_init 0 = .ok (.aload_n 0, 1) := by decide +kernel
theorem dX0_init_1 : decode cX0_init 1 = .ok (.invokespecial 3, 3) := by decide +kernel
theorem dX0_init_4 : decode cX0_init 4 = .ok (.aload_n 0, 1) := by decide +kernel
theorem dX0_init_5 : decode cX0_init 5 = .ok (.bipush 33, 2) := by decide +kernel
theorem dX0_init_7 : decode cX0_init 7 = .ok (.bipush 33, 2) := by decide +kernel
theorem dX0_init_9 : decode cX0_init 9 = .ok (.multianewarray 9 2, 4) := by decide +kernel
theorem dX0_init_13 : decode cX0_init 13 = .ok (.putfield 11, 3) := by decide +kernel
theorem dX0_init_16 : decode cX0_init 16 = .ok (.aload_n 0, 1) := by decide +kernel
theorem dX0_init_17 : decode cX0_init 17 = .ok (.bipush 33, 2) := by decide +kernel
theorem dX0_init_19 : decode cX0_init 19 = .ok (.bipush 33, 2) := by decide +kernel
theorem dX0_init_21 : decode cX0_init 21 = .ok (.multianewarray 9 2, 4) := by decide +kernel
theorem dX0_init_25 : decode cX0_init 25 = .ok (.putfield 16, 3) := by decide +kernel
theorem dX0_init_28 : decode cX0_init 28 = .ok (.aload_n 0, 1) := by decide +kernel
theorem dX0_init_29 : decode cX0_init 29 = .ok (.bipush 32, 2) := by decide +kernel
theorem dX0_init_31 : decode cX0_init 31 = .ok (.newarray .int, 2) := by decide +kernel
theorem dX0_init_33 : decode cX0_init 33 = .ok (.putfield 19, 3) := by decide +kernel
theorem dX0_init_36 : decode cX0_init 36 = .ok (.aload_n 0, 1) := by decide +kernel
theorem dX0_init_37 : decode cX0_init 37 = .ok (.bipush 32, 2) := by decide +kernel
theorem dX0_init_39 : decode cX0_init 39 = .ok (.newarray .int, 2) := by decide +kernel
theorem dX0_init_41 : decode cX0_init 41 = .ok (.putfield 23, 3) := by decide +kernel
theorem dX0_init_44 : decode cX0_init 44 = .ok (.aload_n 0, 1) := by decide +kernel
theorem dX0_init_45 : decode cX0_init 45 = .ok (.bipush 32, 2) := by decide +kernel
theorem dX0_init_47 : decode cX0_init 47 = .ok (.newarray .long, 2) := by decide +kernel
theorem dX0_init_49 : decode cX0_init 49 = .ok (.putfield 26, 3) := by decide +kernel
theorem dX0_init_52 : decode cX0_init 52 = .ok (.return_, 1) := by decide +kernel
theorem dX0_take_0 : decode cX0_take 0 = .ok (.aload_n 0, 1) := by decide +kernel
theorem dX0_take_1 : decode cX0_take 1 = .ok (.aload_n 1, 1) := by decide +kernel
theorem dX0_take_2 : decode cX0_take 2 = .ok (.getfield 30, 3) := by decide +kernel
theorem dX0_take_5 : decode cX0_take 5 = .ok (.putfield 26, 3) := by decide +kernel
theorem dX0_take_8 : decode cX0_take 8 = .ok (.aload_n 0, 1) := by decide +kernel
theorem dX0_take_9 : decode cX0_take 9 = .ok (.aload_n 1, 1) := by decide +kernel
theorem dX0_take_10 : decode cX0_take 10 = .ok (.getfield 33, 3) := by decide +kernel
theorem dX0_take_13 : decode cX0_take 13 = .ok (.putfield 37, 3) := by decide +kernel
theorem dX0_take_16 : decode cX0_take 16 = .ok (.aload_n 0, 1) := by decide +kernel
theorem dX0_take_17 : decode cX0_take 17 = .ok (.iload_n 2, 1) := by decide +kernel
theorem dX0_take_18 : decode cX0_take 18 = .ok (.putfield 38, 3) := by decide +kernel
theorem dX0_take_21 : decode cX0_take 21 = .ok (.iconst 0, 1) := by decide +kernel
theorem dX0_take_22 : decode cX0_take 22 = .ok (.istore_n 3, 1) := by decide +kernel
theorem dX0_take_23 : decode cX0_take 23 = .ok (.iload_n 3, 1) := by decide +kernel
theorem dX0_take_24 : decode cX0_take 24 = .ok (.aload_n 0, 1) := by decide +kernel
theorem dX0_take_25 : decode cX0_take 25 = .ok (.getfield 37, 3) := by decide +kernel
theorem dX0_take_28 : decode cX0_take 28 = .ok (.if_icmp .gt 33, 3) := by decide +kernel
theorem dX0_take_31 : decode cX0_take 31 = .ok (.aload_n 0, 1) := by decide +kernel
theorem dX0_take_32 : decode cX0_take 32 = .ok (.getfield 11, 3) := by decide +kernel
theorem dX0_take_35 : decode cX0_take 35 = .ok (.iload_n 3, 1) := by decide +kernel
theorem dX0_take_36 : decode cX0_take 36 = .ok (.aaload, 1) := by decide +kernel
theorem dX0_take_37 : decode cX0_take 37 = .ok (.aload_n 0, 1) := by decide +kernel
theorem dX0_take_38 : decode cX0_take 38 = .ok (.getfield 37, 3) := by decide +kernel
theorem dX0_take_41 : decode cX0_take 41 = .ok (.iconst 0, 1) := by decide +kernel
theorem dX0_take_42 : decode cX0_take 42 = .ok (.iastore, 1) := by decide +kernel
theorem dX0_take_43 : decode cX0_take 43 = .ok (.aload_n 0, 1) := by decide +kernel
theorem dX0_take_44 : decode cX0_take 44 = .ok (.getfield 11, 3) := by decide +kernel
theorem dX0_take_47 : decode cX0_take 47 = .ok (.aload_n 0, 1) := by decide +kernel
theorem dX0_take_48 : decode cX0_take 48 = .ok (.getfield 37, 3) := by decide +kernel
theorem dX0_take_51 : decode cX0_take 51 = .ok (.aaload, 1) := by decide +kernel
theorem dX0_take_52 : decode cX0_take 52 = .ok (.iload_n 3, 1) := by decide +kernel
theorem dX0_take_53 : decode cX0_take 53 = .ok (.iconst 0, 1) := by decide +kernel
theorem dX0_take_54 : decode cX0_take 54 = .ok (.iastore, 1) := by decide +kernel
theorem dX0_take_55 : decode cX0_take 55 = .ok (.iinc 3 1, 3) := by decide +kernel
theorem dX0_take_58 : decode cX0_take 58 = .ok (.goto (-35), 3) := by decide +kernel
theorem dX0_take_61 : decode cX0_take 61 = .ok (.aload_n 0, 1) := by decide +kernel
theorem dX0_take_62 : decode cX0_take 62 = .ok (.getfield 37, 3) := by decide +kernel
theorem dX0_take_65 : decode cX0_take 65 = .ok (.iconst 1, 1) := by decide +kernel
theorem dX0_take_66 : decode cX0_take 66 = .ok (.isub, 1) := by decide +kernel
theorem dX0_take_67 : decode cX0_take 67 = .ok (.istore_n 3, 1) := by decide +kernel
theorem dX0_take_68 : decode cX0_take 68 = .ok (.iload_n 3, 1) := by decide +kernel
theorem dX0_take_69 : decode cX0_take 69 = .ok (.ifCond .lt 85, 3) := by decide +kernel
theorem dX0_take_72 : decode cX0_take 72 = .ok (.aload_n 0, 1) := by decide +kernel
theorem dX0_take_73 : decode cX0_take 73 = .ok (.getfield 37, 3) := by decide +kernel
theorem dX0_take_76 : decode cX0_take 76 = .ok (.iconst 1, 1) := by decide +kernel
theorem dX0_take_77 : decode cX0_take 77 = .ok (.isub, 1) := by decide +kernel
theorem dX0_take_78 : decode cX0_take 78 = .ok (.istore 4, 2) := by decide +kernel
theorem dX0_take_80 : decode cX0_take 80 = .ok (.iload 4, 2) := by decide +kernel
theorem dX0_take_82 : decode cX0_take 82 = .ok (.ifCond .lt 66, 3) := by decide +kernel
theorem dX0_take_85 : decode cX0_take 85 = .ok (.aload_n 0, 1) := by decide +kernel
theorem dX0_take_86 : decode cX0_take 86 = .ok (.getfield 26, 3) := by decide +kernel
theorem dX0_take_89 : decode cX0_take 89 = .ok (.iload_n 3, 1) := by decide +kernel
theorem dX0_take_90 : decode cX0_take 90 = .ok (.laload, 1) := by decide +kernel
theorem dX0_take_91 : decode cX0_take 91 = .ok (.aload_n 0, 1) := by decide +kernel
theorem dX0_take_92 : decode cX0_take 92 = .ok (.getfield 26, 3) := by decide +kernel
theorem dX0_take_95 : decode cX0_take 95 = .ok (.iload 4, 2) := by decide +kernel
theorem dX0_take_97 : decode cX0_take 97 = .ok (.laload, 1) := by decide +kernel
theorem dX0_take_98 : decode cX0_take 98 = .ok (.lcmp, 1) := by decide +kernel
theorem dX0_take_99 : decode cX0_take 99 = .ok (.ifCond .ne 7, 3) := by decide +kernel
theorem dX0_take_102 : decode cX0_take 102 = .ok (.iconst 1, 1) := by decide +kernel
theorem dX0_take_103 : decode cX0_take 103 = .ok (.goto 4, 3) := by decide +kernel
theorem dX0_take_106 : decode cX0_take 106 = .ok (.iconst 0, 1) := by decide +kernel
theorem dX0_take_107 : decode cX0_take 107 = .ok (.istore 5, 2) := by decide +kernel
theorem dX0_take_109 : decode cX0_take 109 = .ok (.aload_n 0, 1) := by decide +kernel
theorem dX0_take_110 : decode cX0_take 110 = .ok (.getfield 11, 3) := by decide +kernel
theorem dX0_take_113 : decode cX0_take 113 = .ok (.iload_n 3, 1) := by decide +kernel
theorem dX0_take_114 : decode cX0_take 114 = .ok (.aaload, 1) := by decide +kernel
theorem dX0_take_115 : decode cX0_take 115 = .ok (.iload 4, 2) := by decide +kernel
theorem dX0_take_117 : decode cX0_take 117 = .ok (.iload 5, 2) := by decide +kernel
theorem dX0_take_119 : decode cX0_take 119 = .ok (.ifCond .eq 21, 3) := by decide +kernel
theorem dX0_take_122 : decode cX0_take 122 = .ok (.aload_n 0, 1) := by decide +kernel
theorem dX0_take_123 : decode cX0_take 123 = .ok (.getfield 11, 3) := by decide +kernel
theorem dX0_take_126 : decode cX0_take 126 = .ok (.iload_n 3, 1) := by decide +kernel
theorem dX0_take_127 : decode cX0_take 127 = .ok (.iconst 1, 1) := by decide +kernel
theorem dX0_take_128 : decode cX0_take 128 = .ok (.iadd, 1) := by decide +kernel
theorem dX0_take_129 : decode cX0_take 129 = .ok (.aaload, 1) := by decide +kernel
theorem dX0_take_130 : decode cX0_take 130 = .ok (.iload 4, 2) := by decide +kernel
theorem dX0_take_132 : decode cX0_take 132 = .ok (.iconst 1, 1) := by decide +kernel
theorem dX0_take_133 : decode cX0_take 133 = .ok (.iadd, 1) := by decide +kernel
theorem dX0_take_134 : decode cX0_take 134 = .ok (.iaload, 1) := by decide +kernel
theorem dX0_take_135 : decode cX0_take 135 = .ok (.iconst 1, 1) := by decide +kernel
theorem dX0_take_136 : decode cX0_take 136 = .ok (.iadd, 1) := by decide +kernel
theorem dX0_take_137 : decode cX0_take 137 = .ok (.goto 4, 3) := by decide +kernel
theorem dX0_take_140 : decode cX0_take 140 = .ok (.iconst 0, 1) := by decide +kernel
theorem dX0_take_141 : decode cX0_take 141 = .ok (.iastore, 1) := by decide +kernel
theorem dX0_take_142 : decode cX0_take 142 = .ok (.iinc 4 (-1), 3) := by decide +kernel
theorem dX0_take_145 : decode cX0_take 145 = .ok (.goto (-65), 3) := by decide +kernel
theorem dX0_take_148 : decode cX0_take 148 = .ok (.iinc 3 (-1), 3) := by decide +kernel
theorem dX0_take_151 : decode cX0_take 151 = .ok (.goto (-83), 3) := by decide +kernel
theorem dX0_take_154 : decode cX0_take 154 = .ok (.return_, 1) := by decide +kernel
theorem dX0_compareParts_0 : decode cX0_compareParts 0 = .ok (.iload_n 2, 1) := by decide +kernel
theorem dX0_compareParts_1 : decode cX0_compareParts 1 = .ok (.iload_n 1, 1) := by decide +kernel
theorem dX0_compareParts_2 : decode cX0_compareParts 2 = .ok (.isub, 1) := by decide +kernel
theorem dX0_compareParts_3 : decode cX0_compareParts 3 = .ok (.istore 5, 2) := by decide +kernel
theorem dX0_compareParts_5 : decode cX0_compareParts 5 = .ok (.iload 4, 2) := by decide +kernel
theorem dX0_compareParts_7 : decode cX0_compareParts 7 = .ok (.iload_n 3, 1) := by decide +kernel
theorem dX0_compareParts_8 : decode cX0_compareParts 8 = .ok (.isub, 1) := by decide +kernel
theorem dX0_compareParts_9 : decode cX0_compareParts 9 = .ok (.istore 6, 2) := by decide +kernel
theorem dX0_compareParts_11 : decode cX0_compareParts 11 = .ok (.aload_n 0, 1) := by decide +kernel
theorem dX0_compareParts_12 : decode cX0_compareParts 12 = .ok (.getfield 11, 3) := by decide +kernel
theorem dX0_compareParts_15 : decode cX0_compareParts 15 = .ok (.iload_n 1, 1) := by decide +kernel
theorem dX0_compareParts_16 : decode cX0_compareParts 16 = .ok (.aaload, 1) := by decide +kernel
theorem dX0_compareParts_17 : decode cX0_compareParts 17 = .ok (.iload_n 3, 1) := by decide +kernel
theorem dX0_compareParts_18 : decode cX0_compareParts 18 = .ok (.iaload, 1) := by decide +kernel
theorem dX0_compareParts_19 : decode cX0_compareParts 19 = .ok (.istore 7, 2) := by decide +kernel
theorem dX0_compareParts_21 : decode cX0_compareParts 21 = .ok (.iload 7, 2) := by decide +kernel
theorem dX0_compareParts_23 : decode cX0_compareParts 23 = .ok (.iload 5, 2) := by decide +kernel
theorem dX0_compareParts_25 : decode cX0_compareParts 25 = .ok (.if_icmp .ge 36, 3) := by decide +kernel
theorem dX0_compareParts_28 : decode cX0_compareParts 28 = .ok (.iload 7, 2) := by decide +kernel
theorem dX0_compareParts_30 : decode cX0_compareParts 30 = .ok (.iload 6, 2) := by decide +kernel
theorem dX0_compareParts_32 : decode cX0_compareParts 32 = .ok (.if_icmp .ge 29, 3) := by decide +kernel
theorem dX0_compareParts_35 : decode cX0_compareParts 35 = .ok (.aload_n 0, 1) := by decide +kernel
theorem dX0_compareParts_36 : decode cX0_compareParts 36 = .ok (.getfield 26, 3) := by decide +kernel
theorem dX0_compareParts_39 : decode cX0_compareParts 39 = .ok (.iload_n 1, 1) := by decide +kernel
theorem dX0_compareParts_40 : decode cX0_compareParts 40 = .ok (.iload 7, 2) := by decide +kernel
theorem dX0_compareParts_42 : decode cX0_compareParts 42 = .ok (.iadd, 1) := by decide +kernel
theorem dX0_compareParts_43 : decode cX0_compareParts 43 = .ok (.laload, 1) := by decide +kernel
theorem dX0_compareParts_44 : decode cX0_compareParts 44 = .ok (.aload_n 0, 1) := by decide +kernel
theorem dX0_compareParts_45 : decode cX0_compareParts 45 = .ok (.getfield 26, 3) := by decide +kernel
theorem dX0_compareParts_48 : decode cX0_compareParts 48 = .ok (.iload_n 3, 1) := by decide +kernel
theorem dX0_compareParts_49 : decode cX0_compareParts 49 = .ok (.iload 7, 2) := by decide +kernel
theorem dX0_compareParts_51 : decode cX0_compareParts 51 = .ok (.iadd, 1) := by decide +kernel
theorem dX0_compareParts_52 : decode cX0_compareParts 52 = .ok (.laload, 1) := by decide +kernel
theorem dX0_compareParts_53 : decode cX0_compareParts 53 = .ok (.aload_n 0, 1) := by decide +kernel
theorem dX0_compareParts_54 : decode cX0_compareParts 54 = .ok (.getfield 38, 3) := by decide +kernel
theorem dX0_compareParts_57 : decode cX0_compareParts 57 = .ok (.invokestatic 42, 3) := by decide +kernel
theorem dX0_compareParts_60 : decode cX0_compareParts 60 = .ok (.ireturn, 1) := by decide +kernel
theorem dX0_compareParts_61 : decode cX0_compareParts 61 = .ok (.iload 5, 2) := by decide +kernel
theorem dX0_compareParts_63 : decode cX0_compareParts 63 = .ok (.i2l, 1) := by decide +kernel
theorem dX0_compareParts_64 : decode cX0_compareParts 64 = .ok (.iload 6, 2) := by decide +kernel
theorem dX0_compareParts_66 : decode cX0_compareParts 66 = .ok (.i2l, 1) := by decide +kernel
theorem dX0_compareParts_67 : decode cX0_compareParts 67 = .ok (.iconst 0, 1) := by decide +kernel
theorem dX0_compareParts_68 : decode cX0_compareParts 68 = .ok (.invokestatic 42, 3) := by decide +kernel
theorem dX0_compareParts_71 : decode cX0_compareParts 71 = .ok (.ireturn, 1) := by decide +kernel
theorem dX0_putInOrder_0 : decode cX0_putInOrder 0 = .ok (.iconst 0, 1) := by decide +kernel
theorem dX0_putInOrder_1 : decode cX0_putInOrder 1 = .ok (.istore_n 1, 1) := by decide +kernel
theorem dX0_putInOrder_2 : decode cX0_putInOrder 2 = .ok (.iload_n 1, 1) := by decide +kernel
theorem dX0_putInOrder_3 : decode cX0_putInOrder 3 = .ok (.aload_n 0, 1) := by decide +kernel
theorem dX0_putInOrder_4 : decode cX0_putInOrder 4 = .ok (.getfield 37, 3) := by decide +kernel
theorem dX0_putInOrder_7 : decode cX0_putInOrder 7 = .ok (.if_icmp .ge 66, 3) := by decide +kernel
theorem dX0_putInOrder_10 : decode cX0_putInOrder 10 = .ok (.iload_n 1, 1) := by decide +kernel
theorem dX0_putInOrder_11 : decode cX0_putInOrder 11 = .ok (.istore_n 2, 1) := by decide +kernel
theorem dX0_putInOrder_12 : decode cX0_putInOrder 12 = .ok (.iload_n 2, 1) := by decide +kernel
theorem dX0_putInOrder_13 : decode cX0_putInOrder 13 = .ok (.ifCond .le 47, 3) := by decide +kernel
theorem dX0_putInOrder_16 : decode cX0_putInOrder 16 = .ok (.aload_n 0, 1) := by decide +kernel
theorem dX0_putInOrder_17 : decode cX0_putInOrder 17 = .ok (.aload_n 0, 1) := by decide +kernel
theorem dX0_putInOrder_18 : decode cX0_putInOrder 18 = .ok (.getfield 19, 3) := by decide +kernel
theorem dX0_putInOrder_21 : decode cX0_putInOrder 21 = .ok (.iload_n 2, 1) := by decide +kernel
theorem dX0_putInOrder_22 : decode cX0_putInOrder 22 = .ok (.iconst 1, 1) := by decide +kernel
theorem dX0_putInOrder_23 : decode cX0_putInOrder 23 = .ok (.isub, 1) := by decide +kernel
theorem dX0_putInOrder_24 : decode cX0_putInOrder 24 = .ok (.iaload, 1) := by decide +kernel
theorem dX0_putInOrder_25 : decode cX0_putInOrder 25 = .ok (.aload_n 0, 1) := by decide +kernel
theorem dX0_putInOrder_26 : decode cX0_putInOrder 26 = .ok (.getfield 37, 3) := by decide +kernel
theorem dX0_putInOrder_29 : decode cX0_putInOrder 29 = .ok (.iload_n 1, 1) := by decide +kernel
theorem dX0_putInOrder_30 : decode cX0_putInOrder 30 = .ok (.aload_n 0, 1) := by decide +kernel
theorem dX0_putInOrder_31 : decode cX0_putInOrder 31 = .ok (.getfield 37, 3) := by decide +kernel
theorem dX0_putInOrder_34 : decode cX0_putInOrder 34 = .ok (.invokevirtual 46, 3) := by decide +kernel
theorem dX0_putInOrder_37 : decode cX0_putInOrder 37 = .ok (.ifCond .le 23, 3) := by decide +kernel
theorem dX0_putInOrder_40 : decode cX0_putInOrder 40 = .ok (.aload_n 0, 1) := by decide +kernel
theorem dX0_putInOrder_41 : decode cX0_putInOrder 41 = .ok (.getfield 19, 3) := by decide +kernel
theorem dX0_putInOrder_44 : decode cX0_putInOrder 44 = .ok (.iload_n 2, 1) := by decide +kernel
theorem dX0_putInOrder_45 : decode cX0_putInOrder 45 = .ok (.aload_n 0, 1) := by decide +kernel
theorem dX0_putInOrder_46 : decode cX0_putInOrder 46 = .ok (.getfield 19, 3) := by decide +kernel
theorem dX0_putInOrder_49 : decode cX0_putInOrder 49 = .ok (.iload_n 2, 1) := by decide +kernel
theorem dX0_putInOrder_50 : decode cX0_putInOrder 50 = .ok (.iconst 1, 1) := by decide +kernel
theorem dX0_putInOrder_51 : decode cX0_putInOrder 51 = .ok (.isub, 1) := by decide +kernel
theorem dX0_putInOrder_52 : decode cX0_putInOrder 52 = .ok (.iaload, 1) := by decide +kernel
theorem dX0_putInOrder_53 : decode cX0_putInOrder 53 = .ok (.iastore, 1) := by decide +kernel
theorem dX0_putInOrder_54 : decode cX0_putInOrder 54 = .ok (.iinc 2 (-1), 3) := by decide +kernel
theorem dX0_putInOrder_57 : decode cX0_putInOrder 57 = .ok (.goto (-45), 3) := by decide +kernel
theorem dX0_putInOrder_60 : decode cX0_putInOrder 60 = .ok (.aload_n 0, 1) := by decide +kernel
theorem dX0_putInOrder_61 : decode cX0_putInOrder 61 = .ok (.getfield 19, 3) := by decide +kernel
theorem dX0_putInOrder_64 : decode cX0_putInOrder 64 = .ok (.iload_n 2, 1) := by decide +kernel
theorem dX0_putInOrder_65 : decode cX0_putInOrder 65 = .ok (.iload_n 1, 1) := by decide +kernel
theorem dX0_putInOrder_66 : decode cX0_putInOrder 66 = .ok (.iastore, 1) := by decide +kernel
theorem dX0_putInOrder_67 : decode cX0_putInOrder 67 = .ok (.iinc 1 1, 3) := by decide +kernel
theorem dX0_putInOrder_70 : decode cX0_putInOrder 70 = .ok (.goto (-68), 3) := by decide +kernel
theorem dX0_putInOrder_73 : decode cX0_putInOrder 73 = .ok (.return_, 1) := by decide +kernel
theorem dX0_countWords_0 : decode cX0_countWords 0 = .ok (.iconst 0, 1) := by decide +kernel
theorem dX0_countWords_1 : decode cX0_countWords 1 = .ok (.istore_n 1, 1) := by decide +kernel
theorem dX0_countWords_2 : decode cX0_countWords 2 = .ok (.iconst 0, 1) := by decide +kernel
theorem dX0_countWords_3 : decode cX0_countWords 3 = .ok (.istore_n 2, 1) := by decide +kernel
theorem dX0_countWords_4 : decode cX0_countWords 4 = .ok (.iload_n 2, 1) := by decide +kernel
theorem dX0_countWords_5 : decode cX0_countWords 5 = .ok (.aload_n 0, 1) := by decide +kernel
theorem dX0_countWords_6 : decode cX0_countWords 6 = .ok (.getfield 37, 3) := by decide +kernel
theorem dX0_countWords_9 : decode cX0_countWords 9 = .ok (.if_icmp .ge 24, 3) := by decide +kernel
theorem dX0_countWords_12 : decode cX0_countWords 12 = .ok (.iload_n 1, 1) := by decide +kernel
theorem dX0_countWords_13 : decode cX0_countWords 13 = .ok (.aload_n 0, 1) := by decide +kernel
theorem dX0_countWords_14 : decode cX0_countWords 14 = .ok (.getfield 37, 3) := by decide +kernel
theorem dX0_countWords_17 : decode cX0_countWords 17 = .ok (.iload_n 2, 1) := by decide +kernel
theorem dX0_countWords_18 : decode cX0_countWords 18 = .ok (.isub, 1) := by decide +kernel
theorem dX0_countWords_19 : decode cX0_countWords 19 = .ok (.aload_n 0, 1) := by decide +kernel
theorem dX0_countWords_20 : decode cX0_countWords 20 = .ok (.iload_n 2, 1) := by decide +kernel
theorem dX0_countWords_21 : decode cX0_countWords 21 = .ok (.invokevirtual 50, 3) := by decide +kernel
theorem dX0_countWords_24 : decode cX0_countWords 24 = .ok (.isub, 1) := by decide +kernel
theorem dX0_countWords_25 : decode cX0_countWords 25 = .ok (.iadd, 1) := by decide +kernel
theorem dX0_countWords_26 : decode cX0_countWords 26 = .ok (.istore_n 1, 1) := by decide +kernel
theorem dX0_countWords_27 : decode cX0_countWords 27 = .ok (.iinc 2 1, 3) := by decide +kernel
theorem dX0_countWords_30 : decode cX0_countWords 30 = .ok (.goto (-26), 3) := by decide +kernel
theorem dX0_countWords_33 : decode cX0_countWords 33 = .ok (.iload_n 1, 1) := by decide +kernel
theorem dX0_countWords_34 : decode cX0_countWords 34 = .ok (.ireturn, 1) := by decide +kernel
theorem dX0_longestTwice_0 : decode cX0_longestTwice 0 = .ok (.iconst 0, 1) := by decide +kernel
theorem dX0_longestTwice_1 : decode cX0_longestTwice 1 = .ok (.istore_n 1, 1) := by decide +kernel
theorem dX0_longestTwice_2 : decode cX0_longestTwice 2 = .ok (.iconst 0, 1) := by decide +kernel
theorem dX0_longestTwice_3 : decode cX0_longestTwice 3 = .ok (.istore_n 2, 1) := by decide +kernel
theorem dX0_longestTwice_4 : decode cX0_longestTwice 4 = .ok (.iload_n 2, 1) := by decide +kernel
theorem dX0_longestTwice_5 : decode cX0_longestTwice 5 = .ok (.aload_n 0, 1) := by decide +kernel
theorem dX0_longestTwice_6 : decode cX0_longestTwice 6 = .ok (.getfield 37, 3) := by decide +kernel
theorem dX0_longestTwice_9 : decode cX0_longestTwice 9 = .ok (.if_icmp .ge 19, 3) := by decide +kernel
theorem dX0_longestTwice_12 : decode cX0_longestTwice 12 = .ok (.iload_n 1, 1) := by decide +kernel
theorem dX0_longestTwice_13 : decode cX0_longestTwice 13 = .ok (.aload_n 0, 1) := by decide +kernel
theorem dX0_longestTwice_14 : decode cX0_longestTwice 14 = .ok (.iload_n 2, 1) := by decide +kernel
theorem dX0_longestTwice_15 : decode cX0_longestTwice 15 = .ok (.invokevirtual 50, 3) := by decide +kernel
theorem dX0_longestTwice_18 : decode cX0_longestTwice 18 = .ok (.invokestatic 54, 3) := by decide +kernel
theorem dX0_longestTwice_21 : decode cX0_longestTwice 21 = .ok (.istore_n 1, 1) := by decide +kernel
theorem dX0_longestTwice_22 : decode cX0_longestTwice 22 = .ok (.iinc 2 1, 3) := by decide +kernel
theorem dX0_longestTwice_25 : decode cX0_longestTwice 25 = .ok (.goto (-21), 3) := by decide +kernel
theorem dX0_longestTwice_28 : decode cX0_longestTwice 28 = .ok (.iload_n 1, 1) := by decide +kernel
theorem dX0_longestTwice_29 : decode cX0_longestTwice 29 = .ok (.ireturn, 1) := by decide +kernel
theorem dX0_mostAlikeAhead_0 : decode cX0_mostAlikeAhead 0 = .ok (.iconst 0, 1) := by decide +kernel
theorem dX0_mostAlikeAhead_1 : decode cX0_mostAlikeAhead 1 = .ok (.istore_n 2, 1) := by decide +kernel
theorem dX0_mostAlikeAhead_2 : decode cX0_mostAlikeAhead 2 = .ok (.iconst 0, 1) := by decide +kernel
theorem dX0_mostAlikeAhead_3 : decode cX0_mostAlikeAhead 3 = .ok (.istore_n 3, 1) := by decide +kernel
theorem dX0_mostAlikeAhead_4 : decode cX0_mostAlikeAhead 4 = .ok (.iload_n 3, 1) := by decide +kernel
theorem dX0_mostAlikeAhead_5 : decode cX0_mostAlikeAhead 5 = .ok (.iload_n 1, 1) := by decide +kernel
theorem dX0_mostAlikeAhead_6 : decode cX0_mostAlikeAhead 6 = .ok (.if_icmp .ge 22, 3) := by decide +kernel
theorem dX0_mostAlikeAhead_9 : decode cX0_mostAlikeAhead 9 = .ok (.iload_n 2, 1) := by decide +kernel
theorem dX0_mostAlikeAhead_10 : decode cX0_mostAlikeAhead 10 = .ok (.aload_n 0, 1) := by decide +kernel
theorem dX0_mostAlikeAhead_11 : decode cX0_mostAlikeAhead 11 = .ok (.getfield 11, 3) := by decide +kernel
theorem dX0_mostAlikeAhead_14 : decode cX0_mostAlikeAhead 14 = .ok (.iload_n 3, 1) := by decide +kernel
theorem dX0_mostAlikeAhead_15 : decode cX0_mostAlikeAhead 15 = .ok (.aaload, 1) := by decide +kernel
theorem dX0_mostAlikeAhead_16 : decode cX0_mostAlikeAhead 16 = .ok (.iload_n 1, 1) := by decide +kernel
theorem dX0_mostAlikeAhead_17 : decode cX0_mostAlikeAhead 17 = .ok (.iaload, 1) := by decide +kernel
theorem dX0_mostAlikeAhead_18 : decode cX0_mostAlikeAhead 18 = .ok (.invokestatic 54, 3) := by decide +kernel
theorem dX0_mostAlikeAhead_21 : decode cX0_mostAlikeAhead 21 = .ok (.istore_n 2, 1) := by decide +kernel
theorem dX0_mostAlikeAhead_22 : decode cX0_mostAlikeAhead 22 = .ok (.iinc 3 1, 3) := by decide +kernel
theorem dX0_mostAlikeAhead_25 : decode cX0_mostAlikeAhead 25 = .ok (.goto (-21), 3) := by decide +kernel
theorem dX0_mostAlikeAhead_28 : decode cX0_mostAlikeAhead 28 = .ok (.iload_n 2, 1) := by decide +kernel
theorem dX0_mostAlikeAhead_29 : decode cX0_mostAlikeAhead 29 = .ok (.ireturn, 1) := by decide +kernel
theorem dX0_split_0 : decode cX0_split 0 = .ok (.aload_n 0, 1) := by decide +kernel
theorem dX0_split_1 : decode cX0_split 1 = .ok (.iconst 0, 1) := by decide +kernel
theorem dX0_split_2 : decode cX0_split 2 = .ok (.putfield 60, 3) := by decide +kernel
theorem dX0_split_5 : decode cX0_split 5 = .ok (.iconst 0, 1) := by decide +kernel
theorem dX0_split_6 : decode cX0_split 6 = .ok (.istore_n 1, 1) := by decide +kernel
theorem dX0_split_7 : decode cX0_split 7 = .ok (.iconst 0, 1) := by decide +kernel
theorem dX0_split_8 : decode cX0_split 8 = .ok (.istore_n 2, 1) := by decide +kernel
theorem dX0_split_9 : decode cX0_split 9 = .ok (.iload_n 2, 1) := by decide +kernel
theorem dX0_split_10 : decode cX0_split 10 = .ok (.aload_n 0, 1) := by decide +kernel
theorem dX0_split_11 : decode cX0_split 11 = .ok (.getfield 37, 3) := by decide +kernel
theorem dX0_split_14 : decode cX0_split 14 = .ok (.if_icmp .ge 52, 3) := by decide +kernel
theorem dX0_split_17 : decode cX0_split 17 = .ok (.iload_n 2, 1) := by decide +kernel
theorem dX0_split_18 : decode cX0_split 18 = .ok (.ifCond .eq 20, 3) := by decide +kernel
theorem dX0_split_21 : decode cX0_split 21 = .ok (.aload_n 0, 1) := by decide +kernel
theorem dX0_split_22 : decode cX0_split 22 = .ok (.iload_n 2, 1) := by decide +kernel
theorem dX0_split_23 : decode cX0_split 23 = .ok (.aload_n 0, 1) := by decide +kernel
theorem dX0_split_24 : decode cX0_split 24 = .ok (.getfield 37, 3) := by decide +kernel
theorem dX0_split_27 : decode cX0_split 27 = .ok (.iload_n 1, 1) := by decide +kernel
theorem dX0_split_28 : decode cX0_split 28 = .ok (.aload_n 0, 1) := by decide +kernel
theorem dX0_split_29 : decode cX0_split 29 = .ok (.getfield 37, 3) := by decide +kernel
theorem dX0_split_32 : decode cX0_split 32 = .ok (.invokevirtual 46, 3) := by decide +kernel
theorem dX0_split_35 : decode cX0_split 35 = .ok (.ifCond .ge 25, 3) := by decide +kernel
theorem dX0_split_38 : decode cX0_split 38 = .ok (.iload_n 2, 1) := by decide +kernel
theorem dX0_split_39 : decode cX0_split 39 = .ok (.istore_n 1, 1) := by decide +kernel
theorem dX0_split_40 : decode cX0_split 40 = .ok (.aload_n 0, 1) := by decide +kernel
theorem dX0_split_41 : decode cX0_split 41 = .ok (.getfield 23, 3) := by decide +kernel
theorem dX0_split_44 : decode cX0_split 44 = .ok (.aload_n 0, 1) := by decide +kernel
theorem dX0_split_45 : decode cX0_split 45 = .ok (.getfield 60, 3) := by decide +kernel
theorem dX0_split_48 : decode cX0_split 48 = .ok (.iload_n 2, 1) := by decide +kernel
theorem dX0_split_49 : decode cX0_split 49 = .ok (.iastore, 1) := by decide +kernel
theorem dX0_split_50 : decode cX0_split 50 = .ok (.aload_n 0, 1) := by decide +kernel
theorem dX0_split_51 : decode cX0_split 51 = .ok (.dup, 1) := by decide +kernel
theorem dX0_split_52 : decode cX0_split 52 = .ok (.getfield 60, 3) := by decide +kernel
theorem dX0_split_55 : decode cX0_split 55 = .ok (.iconst 1, 1) := by decide +kernel
theorem dX0_split_56 : decode cX0_split 56 = .ok (.iadd, 1) := by decide +kernel
theorem dX0_split_57 : decode cX0_split 57 = .ok (.putfield 60, 3) := by decide +kernel
theorem dX0_split_60 : decode cX0_split 60 = .ok (.iinc 2 1, 3) := by decide +kernel
theorem dX0_split_63 : decode cX0_split 63 = .ok (.goto (-54), 3) := by decide +kernel
theorem dX0_split_66 : decode cX0_split 66 = .ok (.return_, 1) := by decide +kernel
theorem dX0_factorEnd_0 : decode cX0_factorEnd 0 = .ok (.iload_n 1, 1) := by decide +kernel
theorem dX0_factorEnd_1 : decode cX0_factorEnd 1 = .ok (.iconst 1, 1) := by decide +kernel
theorem dX0_factorEnd_2 : decode cX0_factorEnd 2 = .ok (.iadd, 1) := by decide +kernel
theorem dX0_factorEnd_3 : decode cX0_factorEnd 3 = .ok (.aload_n 0, 1) := by decide +kernel
theorem dX0_factorEnd_4 : decode cX0_factorEnd 4 = .ok (.getfield 60, 3) := by decide +kernel
theorem dX0_factorEnd_7 : decode cX0_factorEnd 7 = .ok (.if_icmp .ge 14, 3) := by decide +kernel
theorem dX0_factorEnd_10 : decode cX0_factorEnd 10 = .ok (.aload_n 0, 1) := by decide +kernel
theorem dX0_factorEnd_11 : decode cX0_factorEnd 11 = .ok (.getfield 23, 3) := by decide +kernel
theorem dX0_factorEnd_14 : decode cX0_factorEnd 14 = .ok (.iload_n 1, 1) := by decide +kernel
theorem dX0_factorEnd_15 : decode cX0_factorEnd 15 = .ok (.iconst 1, 1) := by decide +kernel
theorem dX0_factorEnd_16 : decode cX0_factorEnd 16 = .ok (.iadd, 1) := by decide +kernel
theorem dX0_factorEnd_17 : decode cX0_factorEnd 17 = .ok (.iaload, 1) := by decide +kernel
theorem dX0_factorEnd_18 : decode cX0_factorEnd 18 = .ok (.goto 7, 3) := by decide +kernel
theorem dX0_factorEnd_21 : decode cX0_factorEnd 21 = .ok (.aload_n 0, 1) := by decide +kernel
theorem dX0_factorEnd_22 : decode cX0_factorEnd 22 = .ok (.getfield 37, 3) := by decide +kernel
theorem dX0_factorEnd_25 : decode cX0_factorEnd 25 = .ok (.ireturn, 1) := by decide +kernel
theorem dX0_isLyndon_0 : decode cX0_isLyndon 0 = .ok (.iload_n 1, 1) := by decide +kernel
theorem dX0_isLyndon_1 : decode cX0_isLyndon 1 = .ok (.iconst 1, 1) := by decide +kernel
theorem dX0_isLyndon_2 : decode cX0_isLyndon 2 = .ok (.iadd, 1) := by decide +kernel
theorem dX0_isLyndon_3 : decode cX0_isLyndon 3 = .ok (.istore_n 3, 1) := by decide +kernel
theorem dX0_isLyndon_4 : decode cX0_isLyndon 4 = .ok (.iload_n 3, 1) := by decide +kernel
theorem dX0_isLyndon_5 : decode cX0_isLyndon 5 = .ok (.iload_n 2, 1) := by decide +kernel
theorem dX0_isLyndon_6 : decode cX0_isLyndon 6 = .ok (.if_icmp .ge 22, 3) := by decide +kernel
theorem dX0_isLyndon_9 : decode cX0_isLyndon 9 = .ok (.aload_n 0, 1) := by decide +kernel
theorem dX0_isLyndon_10 : decode cX0_isLyndon 10 = .ok (.iload_n 1, 1) := by decide +kernel
theorem dX0_isLyndon_11 : decode cX0_isLyndon 11 = .ok (.iload_n 2, 1) := by decide +kernel
theorem dX0_isLyndon_12 : decode cX0_isLyndon 12 = .ok (.iload_n 3, 1) := by decide +kernel
theorem dX0_isLyndon_13 : decode cX0_isLyndon 13 = .ok (.iload_n 2, 1) := by decide +kernel
theorem dX0_isLyndon_14 : decode cX0_isLyndon 14 = .ok (.invokevirtual 46, 3) := by decide +kernel
theorem dX0_isLyndon_17 : decode cX0_isLyndon 17 = .ok (.ifCond .lt 5, 3) := by decide +kernel
theorem dX0_isLyndon_20 : decode cX0_isLyndon 20 = .ok (.iconst 0, 1) := by decide +kernel
theorem dX0_isLyndon_21 : decode cX0_isLyndon 21 = .ok (.ireturn, 1) := by decide +kernel
theorem dX0_isLyndon_22 : decode cX0_isLyndon 22 = .ok (.iinc 3 1, 3) := by decide +kernel
theorem dX0_isLyndon_25 : decode cX0_isLyndon 25 = .ok (.goto (-21), 3) := by decide +kernel
theorem dX0_isLyndon_28 : decode cX0_isLyndon 28 = .ok (.iload_n 1, 1) := by decide +kernel
theorem dX0_isLyndon_29 : decode cX0_isLyndon 29 = .ok (.iload_n 2, 1) := by decide +kernel
theorem dX0_isLyndon_30 : decode cX0_isLyndon 30 = .ok (.if_icmp .ge 7, 3) := by decide +kernel
theorem dX0_isLyndon_33 : decode cX0_isLyndon 33 = .ok (.iconst 1, 1) := by decide +kernel
theorem dX0_isLyndon_34 : decode cX0_isLyndon 34 = .ok (.goto 4, 3) := by decide +kernel
theorem dX0_isLyndon_37 : decode cX0_isLyndon 37 = .ok (.iconst 0, 1) := by decide +kernel
theorem dX0_isLyndon_38 : decode cX0_isLyndon 38 = .ok (.ireturn, 1) := by decide +kernel
theorem dX0_countWays_0 : decode cX0_countWays 0 = .ok (.aload_n 0, 1) := by decide +kernel
theorem dX0_countWays_1 : decode cX0_countWays 1 = .ok (.getfield 37, 3) := by decide +kernel
theorem dX0_countWays_4 : decode cX0_countWays 4 = .ok (.ifCond .ne 5, 3) := by decide +kernel
theorem dX0_countWays_7 : decode cX0_countWays 7 = .ok (.iconst 1, 1) := by decide +kernel
theorem dX0_countWays_8 : decode cX0_countWays 8 = .ok (.ireturn, 1) := by decide +kernel
theorem dX0_countWays_9 : decode cX0_countWays 9 = .ok (.aload_n 0, 1) := by decide +kernel
theorem dX0_countWays_10 : decode cX0_countWays 10 = .ok (.getfield 37, 3) := by decide +kernel
theorem dX0_countWays_13 : decode cX0_countWays 13 = .ok (.iconst 1, 1) := by decide +kernel
theorem dX0_countWays_14 : decode cX0_countWays 14 = .ok (.isub, 1) := by decide +kernel
theorem dX0_countWays_15 : decode cX0_countWays 15 = .ok (.istore_n 1, 1) := by decide +kernel
theorem dX0_countWays_16 : decode cX0_countWays 16 = .ok (.iload_n 1, 1) := by decide +kernel
theorem dX0_countWays_17 : decode cX0_countWays 17 = .ok (.ifCond .lt 54, 3) := by decide +kernel
theorem dX0_countWays_20 : decode cX0_countWays 20 = .ok (.iload_n 1, 1) := by decide +kernel
theorem dX0_countWays_21 : decode cX0_countWays 21 = .ok (.iconst 1, 1) := by decide +kernel
theorem dX0_countWays_22 : decode cX0_countWays 22 = .ok (.iadd, 1) := by decide +kernel
theorem dX0_countWays_23 : decode cX0_countWays 23 = .ok (.istore_n 2, 1) := by decide +kernel
theorem dX0_countWays_24 : decode cX0_countWays 24 = .ok (.iload_n 2, 1) := by decide +kernel
theorem dX0_countWays_25 : decode cX0_countWays 25 = .ok (.aload_n 0, 1) := by decide +kernel
theorem dX0_countWays_26 : decode cX0_countWays 26 = .ok (.getfield 37, 3) := by decide +kernel
theorem dX0_countWays_29 : decode cX0_countWays 29 = .ok (.if_icmp .gt 36, 3) := by decide +kernel
theorem dX0_countWays_32 : decode cX0_countWays 32 = .ok (.aload_n 0, 1) := by decide +kernel
theorem dX0_countWays_33 : decode cX0_countWays 33 = .ok (.getfield 16, 3) := by decide +kernel
theorem dX0_countWays_36 : decode cX0_countWays 36 = .ok (.iload_n 1, 1) := by decide +kernel
theorem dX0_countWays_37 : decode cX0_countWays 37 = .ok (.aaload, 1) := by decide +kernel
theorem dX0_countWays_38 : decode cX0_countWays 38 = .ok (.iload_n 2, 1) := by decide +kernel
theorem dX0_countWays_39 : decode cX0_countWays 39 = .ok (.aload_n 0, 1) := by decide +kernel
theorem dX0_countWays_40 : decode cX0_countWays 40 = .ok (.iload_n 1, 1) := by decide +kernel
theorem dX0_countWays_41 : decode cX0_countWays 41 = .ok (.iload_n 2, 1) := by decide +kernel
theorem dX0_countWays_42 : decode cX0_countWays 42 = .ok (.invokevirtual 63, 3) := by decide +kernel
theorem dX0_countWays_45 : decode cX0_countWays 45 = .ok (.ifCond .eq 12, 3) := by decide +kernel
theorem dX0_countWays_48 : decode cX0_countWays 48 = .ok (.aload_n 0, 1) := by decide +kernel
theorem dX0_countWays_49 : decode cX0_countWays 49 = .ok (.iload_n 1, 1) := by decide +kernel
theorem dX0_countWays_50 : decode cX0_countWays 50 = .ok (.iload_n 2, 1) := by decide +kernel
theorem dX0_countWays_51 : decode cX0_countWays 51 = .ok (.invokevirtual 67, 3) := by decide +kernel
theorem dX0_countWays_54 : decode cX0_countWays 54 = .ok (.goto 4, 3) := by decide +kernel
theorem dX0_countWays_57 : decode cX0_countWays 57 = .ok (.iconst 0, 1) := by decide +kernel
theorem dX0_countWays_58 : decode cX0_countWays 58 = .ok (.iastore, 1) := by decide +kernel
theorem dX0_countWays_59 : decode cX0_countWays 59 = .ok (.iinc 2 1, 3) := by decide +kernel
theorem dX0_countWays_62 : decode cX0_countWays 62 = .ok (.goto (-38), 3) := by decide +kernel
theorem dX0_countWays_65 : decode cX0_countWays 65 = .ok (.iinc 1 (-1), 3) := by decide +kernel
theorem dX0_countWays_68 : decode cX0_countWays 68 = .ok (.goto (-52), 3) := by decide +kernel
theorem dX0_countWays_71 : decode cX0_countWays 71 = .ok (.iconst 0, 1) := by decide +kernel
theorem dX0_countWays_72 : decode cX0_countWays 72 = .ok (.istore_n 1, 1) := by decide +kernel
theorem dX0_countWays_73 : decode cX0_countWays 73 = .ok (.iconst 1, 1) := by decide +kernel
theorem dX0_countWays_74 : decode cX0_countWays 74 = .ok (.istore_n 2, 1) := by decide +kernel
theorem dX0_countWays_75 : decode cX0_countWays 75 = .ok (.iload_n 2, 1) := by decide +kernel
theorem dX0_countWays_76 : decode cX0_countWays 76 = .ok (.aload_n 0, 1) := by decide +kernel
theorem dX0_countWays_77 : decode cX0_countWays 77 = .ok (.getfield 37, 3) := by decide +kernel
theorem dX0_countWays_80 : decode cX0_countWays 80 = .ok (.if_icmp .gt 20, 3) := by decide +kernel
theorem dX0_countWays_83 : decode cX0_countWays 83 = .ok (.iload_n 1, 1) := by decide +kernel
theorem dX0_countWays_84 : decode cX0_countWays 84 = .ok (.aload_n 0, 1) := by decide +kernel
theorem dX0_countWays_85 : decode cX0_countWays 85 = .ok (.getfield 16, 3) := by decide +kernel
theorem dX0_countWays_88 : decode cX0_countWays 88 = .ok (.iconst 0, 1) := by decide +kernel
theorem dX0_countWays_89 : decode cX0_countWays 89 = .ok (.aaload, 1) := by decide +kernel
theorem dX0_countWays_90 : decode cX0_countWays 90 = .ok (.iload_n 2, 1) := by decide +kernel
theorem dX0_countWays_91 : decode cX0_countWays 91 = .ok (.iaload, 1) := by decide +kernel
theorem dX0_countWays_92 : decode cX0_countWays 92 = .ok (.iadd, 1) := by decide +kernel
theorem dX0_countWays_93 : decode cX0_countWays 93 = .ok (.istore_n 1, 1) := by decide +kernel
theorem dX0_countWays_94 : decode cX0_countWays 94 = .ok (.iinc 2 1, 3) := by decide +kernel
theorem dX0_countWays_97 : decode cX0_countWays 97 = .ok (.goto (-22), 3) := by decide +kernel
theorem dX0_countWays_100 : decode cX0_countWays 100 = .ok (.iload_n 1, 1) := by decide +kernel
theorem dX0_countWays_101 : decode cX0_countWays 101 = .ok (.ireturn, 1) := by decide +kernel
theorem dX0_waysBehind_0 : decode cX0_waysBehind 0 = .ok (.iload_n 2, 1) := by decide +kernel
theorem dX0_waysBehind_1 : decode cX0_waysBehind 1 = .ok (.aload_n 0, 1) := by decide +kernel
theorem dX0_waysBehind_2 : decode cX0_waysBehind 2 = .ok (.getfield 37, 3) := by decide +kernel
theorem dX0_waysBehind_5 : decode cX0_waysBehind 5 = .ok (.if_icmp .ne 5, 3) := by decide +kernel
theorem dX0_waysBehind_8 : decode cX0_waysBehind 8 = .ok (.iconst 1, 1) := by decide +kernel
theorem dX0_waysBehind_9 : decode cX0_waysBehind 9 = .ok (.ireturn, 1) := by decide +kernel
theorem dX0_waysBehind_10 : decode cX0_waysBehind 10 = .ok (.iconst 0, 1) := by decide +kernel
theorem dX0_waysBehind_11 : decode cX0_waysBehind 11 = .ok (.istore_n 3, 1) := by decide +kernel
theorem dX0_waysBehind_12 : decode cX0_waysBehind 12 = .ok (.iload_n 2, 1) := by decide +kernel
theorem dX0_waysBehind_13 : decode cX0_waysBehind 13 = .ok (.iconst 1, 1) := by decide +kernel
theorem dX0_waysBehind_14 : decode cX0_waysBehind 14 = .ok (.iadd, 1) := by decide +kernel
theorem dX0_waysBehind_15 : decode cX0_waysBehind 15 = .ok (.istore 4, 2) := by decide +kernel
theorem dX0_waysBehind_17 : decode cX0_waysBehind 17 = .ok (.iload 4, 2) := by decide +kernel
theorem dX0_waysBehind_19 : decode cX0_waysBehind 19 = .ok (.aload_n 0, 1) := by decide +kernel
theorem dX0_waysBehind_20 : decode cX0_waysBehind 20 = .ok (.getfield 37, 3) := by decide +kernel
theorem dX0_waysBehind_23 : decode cX0_waysBehind 23 = .ok (.if_icmp .gt 45, 3) := by decide +kernel
theorem dX0_waysBehind_26 : decode cX0_waysBehind 26 = .ok (.aload_n 0, 1) := by decide +kernel
theorem dX0_waysBehind_27 : decode cX0_waysBehind 27 = .ok (.getfield 16, 3) := by decide +kernel
theorem dX0_waysBehind_30 : decode cX0_waysBehind 30 = .ok (.iload_n 2, 1) := by decide +kernel
theorem dX0_waysBehind_31 : decode cX0_waysBehind 31 = .ok (.aaload, 1) := by decide +kernel
theorem dX0_waysBehind_32 : decode cX0_waysBehind 32 = .ok (.iload 4, 2) := by decide +kernel
theorem dX0_waysBehind_34 : decode cX0_waysBehind 34 = .ok (.iaload, 1) := by decide +kernel
theorem dX0_waysBehind_35 : decode cX0_waysBehind 35 = .ok (.ifCond .eq 27, 3) := by decide +kernel
theorem dX0_waysBehind_38 : decode cX0_waysBehind 38 = .ok (.aload_n 0, 1) := by decide +kernel
theorem dX0_waysBehind_39 : decode cX0_waysBehind 39 = .ok (.iload_n 1, 1) := by decide +kernel
theorem dX0_waysBehind_40 : decode cX0_waysBehind 40 = .ok (.iload_n 2, 1) := by decide +kernel
theorem dX0_waysBehind_41 : decode cX0_waysBehind 41 = .ok (.iload_n 2, 1) := by decide +kernel
theorem dX0_waysBehind_42 : decode cX0_waysBehind 42 = .ok (.iload 4, 2) := by decide +kernel
theorem dX0_waysBehind_44 : decode cX0_waysBehind 44 = .ok (.invokevirtual 46, 3) := by decide +kernel
theorem dX0_waysBehind_47 : decode cX0_waysBehind 47 = .ok (.ifCond .lt 15, 3) := by decide +kernel
theorem dX0_waysBehind_50 : decode cX0_waysBehind 50 = .ok (.iload_n 3, 1) := by decide +kernel
theorem dX0_waysBehind_51 : decode cX0_waysBehind 51 = .ok (.aload_n 0, 1) := by decide +kernel
theorem dX0_waysBehind_52 : decode cX0_waysBehind 52 = .ok (.getfield 16, 3) := by decide +kernel
theorem dX0_waysBehind_55 : decode cX0_waysBehind 55 = .ok (.iload_n 2, 1) := by decide +kernel
theorem dX0_waysBehind_56 : decode cX0_waysBehind 56 = .ok (.aaload, 1) := by decide +kernel
theorem dX0_waysBehind_57 : decode cX0_waysBehind 57 = .ok (.iload 4, 2) := by decide +kernel
theorem dX0_waysBehind_59 : decode cX0_waysBehind 59 = .ok (.iaload, 1) := by decide +kernel
theorem dX0_waysBehind_60 : decode cX0_waysBehind 60 = .ok (.iadd, 1) := by decide +kernel
theorem dX0_waysBehind_61 : decode cX0_waysBehind 61 = .ok (.istore_n 3, 1) := by decide +kernel
theorem dX0_waysBehind_62 : decode cX0_waysBehind 62 = .ok (.iinc 4 1, 3) := by decide +kernel
theorem dX0_waysBehind_65 : decode cX0_waysBehind 65 = .ok (.goto (-48), 3) := by decide +kernel
theorem dX0_waysBehind_68 : decode cX0_waysBehind 68 = .ok (.iload_n 3, 1) := by decide +kernel
theorem dX0_waysBehind_69 : decode cX0_waysBehind 69 = .ok (.ireturn, 1) := by decide +kernel
theorem dX1_init_0 : decode cX1_init 0 = .ok (.aload_n 0, 1) := by decide +kernel
theorem dX1_init_1 : decode cX1_init 1 = .ok (.invokespecial 3, 3) := by decide +kernel
theorem dX1_init_4 : decode cX1_init 4 = .ok (.aload_n 0, 1) := by decide +kernel
theorem dX1_init_5 : decode cX1_init 5 = .ok (.bipush 32, 2) := by decide +kernel
theorem dX1_init_7 : decode cX1_init 7 = .ok (.newarray .long, 2) := by decide +kernel
theorem dX1_init_9 : decode cX1_init 9 = .ok (.putfield 9, 3) := by decide +kernel
theorem dX1_init_12 : decode cX1_init 12 = .ok (.return_, 1) := by decide +kernel
theorem dX1_hasPeriod_0 : decode cX1_hasPeriod 0 = .ok (.iload_n 1, 1) := by decide +kernel
theorem dX1_hasPeriod_1 : decode cX1_hasPeriod 1 = .ok (.istore_n 2, 1) := by decide +kernel
theorem dX1_hasPeriod_2 : decode cX1_hasPeriod 2 = .ok (.iload_n 2, 1) := by decide +kernel
theorem dX1_hasPeriod_3 : decode cX1_hasPeriod 3 = .ok (.aload_n 0, 1) := by decide +kernel
theorem dX1_hasPeriod_4 : decode cX1_hasPeriod 4 = .ok (.getfield 15, 3) := by decide +kernel
theorem dX1_hasPeriod_7 : decode cX1_hasPeriod 7 = .ok (.if_icmp .ge 29, 3) := by decide +kernel
theorem dX1_hasPeriod_10 : decode cX1_hasPeriod 10 = .ok (.aload_n 0, 1) := by decide +kernel
theorem dX1_hasPeriod_11 : decode cX1_hasPeriod 11 = .ok (.getfield 9, 3) := by decide +kernel
theorem dX1_hasPeriod_14 : decode cX1_hasPeriod 14 = .ok (.iload_n 2, 1) := by decide +kernel
theorem dX1_hasPeriod_15 : decode cX1_hasPeriod 15 = .ok (.laload, 1) := by decide +kernel
theorem dX1_hasPeriod_16 : decode cX1_hasPeriod 16 = .ok (.aload_n 0, 1) := by decide +kernel
theorem dX1_hasPeriod_17 : decode cX1_hasPeriod 17 = .ok (.getfield 9, 3) := by decide +kernel
theorem dX1_hasPeriod_20 : decode cX1_hasPeriod 20 = .ok (.iload_n 2, 1) := by decide +kernel
theorem dX1_hasPeriod_21 : decode cX1_hasPeriod 21 = .ok (.iload_n 1, 1) := by decide +kernel
theorem dX1_hasPeriod_22 : decode cX1_hasPeriod 22 = .ok (.isub, 1) := by decide +kernel
theorem dX1_hasPeriod_23 : decode cX1_hasPeriod 23 = .ok (.laload, 1) := by decide +kernel
theorem dX1_hasPeriod_24 : decode cX1_hasPeriod 24 = .ok (.lcmp, 1) := by decide +kernel
theorem dX1_hasPeriod_25 : decode cX1_hasPeriod 25 = .ok (.ifCond .eq 5, 3) := by decide +kernel
theorem dX1_hasPeriod_28 : decode cX1_hasPeriod 28 = .ok (.iconst 0, 1) := by decide +kernel
theorem dX1_hasPeriod_29 : decode cX1_hasPeriod 29 = .ok (.ireturn, 1) := by decide +kernel
theorem dX1_hasPeriod_30 : decode cX1_hasPeriod 30 = .ok (.iinc 2 1, 3) := by decide +kernel
theorem dX1_hasPeriod_33 : decode cX1_hasPeriod 33 = .ok (.goto (-31), 3) := by decide +kernel
theorem dX1_hasPeriod_36 : decode cX1_hasPeriod 36 = .ok (.iconst 1, 1) := by decide +kernel
theorem dX1_hasPeriod_37 : decode cX1_hasPeriod 37 = .ok (.ireturn, 1) := by decide +kernel
theorem dX1_compareRotations_0 : decode cX1_compareRotations 0 = .ok (.iconst 0, 1) := by decide +kernel
theorem dX1_compareRotations_1 : decode cX1_compareRotations 1 = .ok (.istore 4, 2) := by decide +kernel
theorem dX1_compareRotations_3 : decode cX1_compareRotations 3 = .ok (.iload 4, 2) := by decide +kernel
theorem dX1_compareRotations_5 : decode cX1_compareRotations 5 = .ok (.aload_n 0, 1) := by decide +kernel
theorem dX1_compareRotations_6 : decode cX1_compareRotations 6 = .ok (.getfield 15, 3) := by decide +kernel
theorem dX1_compareRotations_9 : decode cX1_compareRotations 9 = .ok (.if_icmp .ge 39, 3) := by decide +kernel
theorem dX1_compareRotations_12 : decode cX1_compareRotations 12 = .ok (.aload_n 0, 1) := by decide +kernel
theorem dX1_compareRotations_13 : decode cX1_compareRotations 13 = .ok (.iload_n 1, 1) := by decide +kernel
theorem dX1_compareRotations_14 : decode cX1_compareRotations 14 = .ok (.iload 4, 2) := by decide +kernel
theorem dX1_compareRotations_16 : decode cX1_compareRotations 16 = .ok (.iadd, 1) := by decide +kernel
theorem dX1_compareRotations_17 : decode cX1_compareRotations 17 = .ok (.invokevirtual 19, 3) := by decide +kernel
theorem dX1_compareRotations_20 : decode cX1_compareRotations 20 = .ok (.aload_n 0, 1) := by decide +kernel
theorem dX1_compareRotations_21 : decode cX1_compareRotations 21 = .ok (.iload_n 2, 1) := by decide +kernel
theorem dX1_compareRotations_22 : decode cX1_compareRotations 22 = .ok (.iload 4, 2) := by decide +kernel
theorem dX1_compareRotations_24 : decode cX1_compareRotations 24 = .ok (.iadd, 1) := by decide +kernel
theorem dX1_compareRotations_25 : decode cX1_compareRotations 25 = .ok (.invokevirtual 19, 3) := by decide +kernel
theorem dX1_compareRotations_28 : decode cX1_compareRotations 28 = .ok (.iload_n 3, 1) := by decide +kernel
theorem dX1_compareRotations_29 : decode cX1_compareRotations 29 = .ok (.invokestatic 23, 3) := by decide +kernel
theorem dX1_compareRotations_32 : decode cX1_compareRotations 32 = .ok (.istore 5, 2) := by decide +kernel
theorem dX1_compareRotations_34 : decode cX1_compareRotations 34 = .ok (.iload 5, 2) := by decide +kernel
theorem dX1_compareRotations_36 : decode cX1_compareRotations 36 = .ok (.ifCond .eq 6, 3) := by decide +kernel
theorem dX1_compareRotations_39 : decode cX1_compareRotations 39 = .ok (.iload 5, 2) := by decide +kernel
theorem dX1_compareRotations_41 : decode cX1_compareRotations 41 = .ok (.ireturn, 1) := by decide +kernel
theorem dX1_compareRotations_42 : decode cX1_compareRotations 42 = .ok (.iinc 4 1, 3) := by decide +kernel
theorem dX1_compareRotations_45 : decode cX1_compareRotations 45 = .ok (.goto (-42), 3) := by decide +kernel
theorem dX1_compareRotations_48 : decode cX1_compareRotations 48 = .ok (.iconst 0, 1) := by decide +kernel
theorem dX1_compareRotations_49 : decode cX1_compareRotations 49 = .ok (.ireturn, 1) := by decide +kernel
theorem dX1_atRound_0 : decode cX1_atRound 0 = .ok (.aload_n 0, 1) := by decide +kernel
theorem dX1_atRound_1 : decode cX1_atRound 1 = .ok (.getfield 9, 3) := by decide +kernel
theorem dX1_atRound_4 : decode cX1_atRound 4 = .ok (.iload_n 1, 1) := by decide +kernel
theorem dX1_atRound_5 : decode cX1_atRound 5 = .ok (.aload_n 0, 1) := by decide +kernel
theorem dX1_atRound_6 : decode cX1_atRound 6 = .ok (.getfield 15, 3) := by decide +kernel
theorem dX1_atRound_9 : decode cX1_atRound 9 = .ok (.if_icmp .ge 7, 3) := by decide +kernel
theorem dX1_atRound_12 : decode cX1_atRound 12 = .ok (.iload_n 1, 1) := by decide +kernel
theorem dX1_atRound_13 : decode cX1_atRound 13 = .ok (.goto 9, 3) := by decide +kernel
theorem dX1_atRound_16 : decode cX1_atRound 16 = .ok (.iload_n 1, 1) := by decide +kernel
theorem dX1_atRound_17 : decode cX1_atRound 17 = .ok (.aload_n 0, 1) := by decide +kernel
theorem dX1_atRound_18 : decode cX1_atRound 18 = .ok (.getfield 15, 3) := by decide +kernel
theorem dX1_atRound_21 : decode cX1_atRound 21 = .ok (.isub, 1) := by decide +kernel
theorem dX1_atRound_22 : decode cX1_atRound 22 = .ok (.laload, 1) := by decide +kernel
theorem dX1_atRound_23 : decode cX1_atRound 23 = .ok (.lreturn, 1) := by decide +kernel
theorem dX2_countIsTrue_0 : decode cX2_countIsTrue 0 = .ok (.aload_n 0, 1) := by decide +kernel
theorem dX2_countIsTrue_1 : decode cX2_countIsTrue 1 = .ok (.getfield 7, 3) := by decide +kernel
theorem dX2_countIsTrue_4 : decode cX2_countIsTrue 4 = .ok (.aload_n 0, 1) := by decide +kernel
theorem dX2_countIsTrue_5 : decode cX2_countIsTrue 5 = .ok (.getfield 7, 3) := by decide +kernel
theorem dX2_countIsTrue_8 : decode cX2_countIsTrue 8 = .ok (.iconst 1, 1) := by decide +kernel
theorem dX2_countIsTrue_9 : decode cX2_countIsTrue 9 = .ok (.iadd, 1) := by decide +kernel
theorem dX2_countIsTrue_10 : decode cX2_countIsTrue 10 = .ok (.imul, 1) := by decide +kernel
theorem dX2_countIsTrue_11 : decode cX2_countIsTrue 11 = .ok (.iconst 2, 1) := by decide +kernel
theorem dX2_countIsTrue_12 : decode cX2_countIsTrue 12 = .ok (.idiv, 1) := by decide +kernel
theorem dX2_countIsTrue_13 : decode cX2_countIsTrue 13 = .ok (.istore_n 1, 1) := by decide +kernel
theorem dX2_countIsTrue_14 : decode cX2_countIsTrue 14 = .ok (.iconst 1, 1) := by decide +kernel
theorem dX2_countIsTrue_15 : decode cX2_countIsTrue 15 = .ok (.istore_n 2, 1) := by decide +kernel
theorem dX2_countIsTrue_16 : decode cX2_countIsTrue 16 = .ok (.iload_n 2, 1) := by decide +kernel
theorem dX2_countIsTrue_17 : decode cX2_countIsTrue 17 = .ok (.aload_n 0, 1) := by decide +kernel
theorem dX2_countIsTrue_18 : decode cX2_countIsTrue 18 = .ok (.getfield 7, 3) := by decide +kernel
theorem dX2_countIsTrue_21 : decode cX2_countIsTrue 21 = .ok (.if_icmp .ge 32, 3) := by decide +kernel
theorem dX2_countIsTrue_24 : decode cX2_countIsTrue 24 = .ok (.iload_n 1, 1) := by decide +kernel
theorem dX2_countIsTrue_25 : decode cX2_countIsTrue 25 = .ok (.aload_n 0, 1) := by decide +kernel
theorem dX2_countIsTrue_26 : decode cX2_countIsTrue 26 = .ok (.getfield 13, 3) := by decide +kernel
theorem dX2_countIsTrue_29 : decode cX2_countIsTrue 29 = .ok (.aload_n 0, 1) := by decide +kernel
theorem dX2_countIsTrue_30 : decode cX2_countIsTrue 30 = .ok (.getfield 17, 3) := by decide +kernel
theorem dX2_countIsTrue_33 : decode cX2_countIsTrue 33 = .ok (.iload_n 2, 1) := by decide +kernel
theorem dX2_countIsTrue_34 : decode cX2_countIsTrue 34 = .ok (.iconst 1, 1) := by decide +kernel
theorem dX2_countIsTrue_35 : decode cX2_countIsTrue 35 = .ok (.isub, 1) := by decide +kernel
theorem dX2_countIsTrue_36 : decode cX2_countIsTrue 36 = .ok (.iaload, 1) := by decide +kernel
theorem dX2_countIsTrue_37 : decode cX2_countIsTrue 37 = .ok (.aaload, 1) := by decide +kernel
theorem dX2_countIsTrue_38 : decode cX2_countIsTrue 38 = .ok (.aload_n 0, 1) := by decide +kernel
theorem dX2_countIsTrue_39 : decode cX2_countIsTrue 39 = .ok (.getfield 17, 3) := by decide +kernel
theorem dX2_countIsTrue_42 : decode cX2_countIsTrue 42 = .ok (.iload_n 2, 1) := by decide +kernel
theorem dX2_countIsTrue_43 : decode cX2_countIsTrue 43 = .ok (.iaload, 1) := by decide +kernel
theorem dX2_countIsTrue_44 : decode cX2_countIsTrue 44 = .ok (.iaload, 1) := by decide +kernel
theorem dX2_countIsTrue_45 : decode cX2_countIsTrue 45 = .ok (.isub, 1) := by decide +kernel
theorem dX2_countIsTrue_46 : decode cX2_countIsTrue 46 = .ok (.istore_n 1, 1) := by decide +kernel
theorem dX2_countIsTrue_47 : decode cX2_countIsTrue 47 = .ok (.iinc 2 1, 3) := by decide +kernel
theorem dX2_countIsTrue_50 : decode cX2_countIsTrue 50 = .ok (.goto (-34), 3) := by decide +kernel
theorem dX2_countIsTrue_53 : decode cX2_countIsTrue 53 = .ok (.iload_n 1, 1) := by decide +kernel
theorem dX2_countIsTrue_54 : decode cX2_countIsTrue 54 = .ok (.aload_n 0, 1) := by decide +kernel
theorem dX2_countIsTrue_55 : decode cX2_countIsTrue 55 = .ok (.invokevirtual 21, 3) := by decide +kernel
theorem dX2_countIsTrue_58 : decode cX2_countIsTrue 58 = .ok (.if_icmp .ne 7, 3) := by decide +kernel
theorem dX2_countIsTrue_61 : decode cX2_countIsTrue 61 = .ok (.iconst 1, 1) := by decide +kernel
theorem dX2_countIsTrue_62 : decode cX2_countIsTrue 62 = .ok (.goto 4, 3) := by decide +kernel
theorem dX2_countIsTrue_65 : decode cX2_countIsTrue 65 = .ok (.iconst 0, 1) := by decide +kernel
theorem dX2_countIsTrue_66 : decode cX2_countIsTrue 66 = .ok (.ireturn, 1) := by decide +kernel
theorem dX2_periodsAreTrue_0 : decode cX2_periodsAreTrue 0 = .ok (.aload_n 0, 1) := by decide +kernel
theorem dX2_periodsAreTrue_1 : decode cX2_periodsAreTrue 1 = .ok (.getfield 25, 3) := by decide +kernel
theorem dX2_periodsAreTrue_4 : decode cX2_periodsAreTrue 4 = .ok (.istore_n 2, 1) := by decide +kernel
theorem dX2_periodsAreTrue_5 : decode cX2_periodsAreTrue 5 = .ok (.iconst 1, 1) := by decide +kernel
theorem dX2_periodsAreTrue_6 : decode cX2_periodsAreTrue 6 = .ok (.istore_n 3, 1) := by decide +kernel
theorem dX2_periodsAreTrue_7 : decode cX2_periodsAreTrue 7 = .ok (.iload_n 3, 1) := by decide +kernel
theorem dX2_periodsAreTrue_8 : decode cX2_periodsAreTrue 8 = .ok (.iload_n 2, 1) := by decide +kernel
theorem dX2_periodsAreTrue_9 : decode cX2_periodsAreTrue 9 = .ok (.if_icmp .gt 82, 3) := by decide +kernel
theorem dX2_periodsAreTrue_12 : decode cX2_periodsAreTrue 12 = .ok (.aload_n 1, 1) := by decide +kernel
theorem dX2_periodsAreTrue_13 : decode cX2_periodsAreTrue 13 = .ok (.iconst 0, 1) := by decide +kernel
theorem dX2_periodsAreTrue_14 : decode cX2_periodsAreTrue 14 = .ok (.iload_n 2, 1) := by decide +kernel
theorem dX2_periodsAreTrue_15 : decode cX2_periodsAreTrue 15 = .ok (.iload_n 3, 1) := by decide +kernel
theorem dX2_periodsAreTrue_16 : decode cX2_periodsAreTrue 16 = .ok (.isub, 1) := by decide +kernel
theorem dX2_periodsAreTrue_17 : decode cX2_periodsAreTrue 17 = .ok (.iload_n 3, 1) := by decide +kernel
theorem dX2_periodsAreTrue_18 : decode cX2_periodsAreTrue 18 = .ok (.iload_n 2, 1) := by decide +kernel
theorem dX2_periodsAreTrue_19 : decode cX2_periodsAreTrue 19 = .ok (.invokevirtual 28, 3) := by decide +kernel
theorem dX2_periodsAreTrue_22 : decode cX2_periodsAreTrue 22 = .ok (.ifCond .ne 7, 3) := by decide +kernel
theorem dX2_periodsAreTrue_25 : decode cX2_periodsAreTrue 25 = .ok (.iconst 1, 1) := by decide +kernel
theorem dX2_periodsAreTrue_26 : decode cX2_periodsAreTrue 26 = .ok (.goto 4, 3) := by decide +kernel
theorem dX2_periodsAreTrue_29 : decode cX2_periodsAreTrue 29 = .ok (.iconst 0, 1) := by decide +kernel
theorem dX2_periodsAreTrue_30 : decode cX2_periodsAreTrue 30 = .ok (.istore 4, 2) := by decide +kernel
theorem dX2_periodsAreTrue_32 : decode cX2_periodsAreTrue 32 = .ok (.aload_n 0, 1) := by decide +kernel
theorem dX2_periodsAreTrue_33 : decode cX2_periodsAreTrue 33 = .ok (.iload_n 3, 1) := by decide +kernel
theorem dX2_periodsAreTrue_34 : decode cX2_periodsAreTrue 34 = .ok (.invokevirtual 32, 3) := by decide +kernel
theorem dX2_periodsAreTrue_37 : decode cX2_periodsAreTrue 37 = .ok (.iload 4, 2) := by decide +kernel
theorem dX2_periodsAreTrue_39 : decode cX2_periodsAreTrue 39 = .ok (.if_icmp .eq 5, 3) := by decide +kernel
theorem dX2_periodsAreTrue_42 : decode cX2_periodsAreTrue 42 = .ok (.iconst 0, 1) := by decide +kernel
theorem dX2_periodsAreTrue_43 : decode cX2_periodsAreTrue 43 = .ok (.ireturn, 1) := by decide +kernel
theorem dX2_periodsAreTrue_44 : decode cX2_periodsAreTrue 44 = .ok (.iconst 1, 1) := by decide +kernel
theorem dX2_periodsAreTrue_45 : decode cX2_periodsAreTrue 45 = .ok (.istore 5, 2) := by decide +kernel
theorem dX2_periodsAreTrue_47 : decode cX2_periodsAreTrue 47 = .ok (.iload 5, 2) := by decide +kernel
theorem dX2_periodsAreTrue_49 : decode cX2_periodsAreTrue 49 = .ok (.iload_n 3, 1) := by decide +kernel
theorem dX2_periodsAreTrue_50 : decode cX2_periodsAreTrue 50 = .ok (.if_icmp .ge 35, 3) := by decide +kernel
theorem dX2_periodsAreTrue_53 : decode cX2_periodsAreTrue 53 = .ok (.iload 4, 2) := by decide +kernel
theorem dX2_periodsAreTrue_55 : decode cX2_periodsAreTrue 55 = .ok (.ifCond .eq 30, 3) := by decide +kernel
theorem dX2_periodsAreTrue_58 : decode cX2_periodsAreTrue 58 = .ok (.aload_n 0, 1) := by decide +kernel
theorem dX2_periodsAreTrue_59 : decode cX2_periodsAreTrue 59 = .ok (.iload 5, 2) := by decide +kernel
theorem dX2_periodsAreTrue_61 : decode cX2_periodsAreTrue 61 = .ok (.invokevirtual 32, 3) := by decide +kernel
theorem dX2_periodsAreTrue_64 : decode cX2_periodsAreTrue 64 = .ok (.ifCond .eq 15, 3) := by decide +kernel
theorem dX2_periodsAreTrue_67 : decode cX2_periodsAreTrue 67 = .ok (.aload_n 0, 1) := by decide +kernel
theorem dX2_periodsAreTrue_68 : decode cX2_periodsAreTrue 68 = .ok (.iload_n 3, 1) := by decide +kernel
theorem dX2_periodsAreTrue_69 : decode cX2_periodsAreTrue 69 = .ok (.iload 5, 2) := by decide +kernel
theorem dX2_periodsAreTrue_71 : decode cX2_periodsAreTrue 71 = .ok (.invokestatic 36, 3) := by decide +kernel
theorem dX2_periodsAreTrue_74 : decode cX2_periodsAreTrue 74 = .ok (.ifCond .ne 5, 3) := by decide +kernel
theorem dX2_periodsAreTrue_77 : decode cX2_periodsAreTrue 77 = .ok (.iconst 0, 1) := by decide +kernel
theorem dX2_periodsAreTrue_78 : decode cX2_periodsAreTrue 78 = .ok (.ireturn, 1) := by decide +kernel
theorem dX2_periodsAreTrue_79 : decode cX2_periodsAreTrue 79 = .ok (.iinc 5 1, 3) := by decide +kernel
theorem dX2_periodsAreTrue_82 : decode cX2_periodsAreTrue 82 = .ok (.goto (-35), 3) := by decide +kernel
theorem dX2_periodsAreTrue_85 : decode cX2_periodsAreTrue 85 = .ok (.iinc 3 1, 3) := by decide +kernel
theorem dX2_periodsAreTrue_88 : decode cX2_periodsAreTrue 88 = .ok (.goto (-81), 3) := by decide +kernel
theorem dX2_periodsAreTrue_91 : decode cX2_periodsAreTrue 91 = .ok (.iconst 1, 1) := by decide +kernel
theorem dX2_periodsAreTrue_92 : decode cX2_periodsAreTrue 92 = .ok (.ireturn, 1) := by decide +kernel
theorem dX2_divisorIsTrue_0 : decode cX2_divisorIsTrue 0 = .ok (.iload_n 1, 1) := by decide +kernel
theorem dX2_divisorIsTrue_1 : decode cX2_divisorIsTrue 1 = .ok (.iload_n 2, 1) := by decide +kernel
theorem dX2_divisorIsTrue_2 : decode cX2_divisorIsTrue 2 = .ok (.invokestatic 42, 3) := by decide +kernel
theorem dX2_divisorIsTrue_5 : decode cX2_divisorIsTrue 5 = .ok (.istore_n 3, 1) := by decide +kernel
theorem dX2_divisorIsTrue_6 : decode cX2_divisorIsTrue 6 = .ok (.iload_n 1, 1) := by decide +kernel
theorem dX2_divisorIsTrue_7 : decode cX2_divisorIsTrue 7 = .ok (.iload_n 2, 1) := by decide +kernel
theorem dX2_divisorIsTrue_8 : decode cX2_divisorIsTrue 8 = .ok (.iadd, 1) := by decide +kernel
theorem dX2_divisorIsTrue_9 : decode cX2_divisorIsTrue 9 = .ok (.iload_n 3, 1) := by decide +kernel
theorem dX2_divisorIsTrue_10 : decode cX2_divisorIsTrue 10 = .ok (.isub, 1) := by decide +kernel
theorem dX2_divisorIsTrue_11 : decode cX2_divisorIsTrue 11 = .ok (.aload_n 0, 1) := by decide +kernel
theorem dX2_divisorIsTrue_12 : decode cX2_divisorIsTrue 12 = .ok (.getfield 25, 3) := by decide +kernel
theorem dX2_divisorIsTrue_15 : decode cX2_divisorIsTrue 15 = .ok (.if_icmp .gt 11, 3) := by decide +kernel
theorem dX2_divisorIsTrue_18 : decode cX2_divisorIsTrue 18 = .ok (.aload_n 0, 1) := by decide +kernel
theorem dX2_divisorIsTrue_19 : decode cX2_divisorIsTrue 19 = .ok (.iload_n 3, 1) := by decide +kernel
theorem dX2_divisorIsTrue_20 : decode cX2_divisorIsTrue 20 = .ok (.invokevirtual 32, 3) := by decide +kernel
theorem dX2_divisorIsTrue_23 : decode cX2_divisorIsTrue 23 = .ok (.ifCond .eq 7, 3) := by decide +kernel
theorem dX2_divisorIsTrue_26 : decode cX2_divisorIsTrue 26 = .ok (.iconst 1, 1) := by decide +kernel
theorem dX2_divisorIsTrue_27 : decode cX2_divisorIsTrue 27 = .ok (.goto 4, 3) := by decide +kernel
theorem dX2_divisorIsTrue_30 : decode cX2_divisorIsTrue 30 = .ok (.iconst 0, 1) := by decide +kernel
theorem dX2_divisorIsTrue_31 : decode cX2_divisorIsTrue 31 = .ok (.ireturn, 1) := by decide +kernel
theorem dX2_greatestDivisor_0 : decode cX2_greatestDivisor 0 = .ok (.iload_n 0, 1) := by decide +kernel
theorem dX2_greatestDivisor_1 : decode cX2_greatestDivisor 1 = .ok (.iload_n 1, 1) := by decide +kernel
theorem dX2_greatestDivisor_2 : decode cX2_greatestDivisor 2 = .ok (.invokestatic 46, 3) := by decide +kernel
theorem dX2_greatestDivisor_5 : decode cX2_greatestDivisor 5 = .ok (.istore_n 2, 1) := by decide +kernel
theorem dX2_greatestDivisor_6 : decode cX2_greatestDivisor 6 = .ok (.iload_n 2, 1) := by decide +kernel
theorem dX2_greatestDivisor_7 : decode cX2_greatestDivisor 7 = .ok (.iconst 1, 1) := by decide +kernel
theorem dX2_greatestDivisor_8 : decode cX2_greatestDivisor 8 = .ok (.if_icmp .le 23, 3) := by decide +kernel
theorem dX2_greatestDivisor_11 : decode cX2_greatestDivisor 11 = .ok (.iload_n 0, 1) := by decide +kernel
theorem dX2_greatestDivisor_12 : decode cX2_greatestDivisor 12 = .ok (.iload_n 2, 1) := by decide +kernel
theorem dX2_greatestDivisor_13 : decode cX2_greatestDivisor 13 = .ok (.irem, 1) := by decide +kernel
theorem dX2_greatestDivisor_14 : decode cX2_greatestDivisor 14 = .ok (.ifCond .ne 11, 3) := by decide +kernel
theorem dX2_greatestDivisor_17 : decode cX2_greatestDivisor 17 = .ok (.iload_n 1, 1) := by decide +kernel
theorem dX2_greatestDivisor_18 : decode cX2_greatestDivisor 18 = .ok (.iload_n 2, 1) := by decide +kernel
theorem dX2_greatestDivisor_19 : decode cX2_greatestDivisor 19 = .ok (.irem, 1) := by decide +kernel
theorem dX2_greatestDivisor_20 : decode cX2_greatestDivisor 20 = .ok (.ifCond .ne 5, 3) := by decide +kernel
theorem dX2_greatestDivisor_23 : decode cX2_greatestDivisor 23 = .ok (.iload_n 2, 1) := by decide +kernel
theorem dX2_greatestDivisor_24 : decode cX2_greatestDivisor 24 = .ok (.ireturn, 1) := by decide +kernel
theorem dX2_greatestDivisor_25 : decode cX2_greatestDivisor 25 = .ok (.iinc 2 (-1), 3) := by decide +kernel
theorem dX2_greatestDivisor_28 : decode cX2_greatestDivisor 28 = .ok (.goto (-22), 3) := by decide +kernel
theorem dX2_greatestDivisor_31 : decode cX2_greatestDivisor 31 = .ok (.iconst 1, 1) := by decide +kernel
theorem dX2_greatestDivisor_32 : decode cX2_greatestDivisor 32 = .ok (.ireturn, 1) := by decide +kernel
theorem dX2_factorsAreTrue_0 : decode cX2_factorsAreTrue 0 = .ok (.aload_n 0, 1) := by decide +kernel
theorem dX2_factorsAreTrue_1 : decode cX2_factorsAreTrue 1 = .ok (.getfield 51, 3) := by decide +kernel
theorem dX2_factorsAreTrue_4 : decode cX2_factorsAreTrue 4 = .ok (.iconst 1, 1) := by decide +kernel
theorem dX2_factorsAreTrue_5 : decode cX2_factorsAreTrue 5 = .ok (.isub, 1) := by decide +kernel
theorem dX2_factorsAreTrue_6 : decode cX2_factorsAreTrue 6 = .ok (.istore_n 1, 1) := by decide +kernel
theorem dX2_factorsAreTrue_7 : decode cX2_factorsAreTrue 7 = .ok (.iconst 0, 1) := by decide +kernel
theorem dX2_factorsAreTrue_8 : decode cX2_factorsAreTrue 8 = .ok (.istore_n 2, 1) := by decide +kernel
theorem dX2_factorsAreTrue_9 : decode cX2_factorsAreTrue 9 = .ok (.iload_n 2, 1) := by decide +kernel
theorem dX2_factorsAreTrue_10 : decode cX2_factorsAreTrue 10 = .ok (.iload_n 1, 1) := by decide +kernel
theorem dX2_factorsAreTrue_11 : decode cX2_factorsAreTrue 11 = .ok (.if_icmp .gt 61, 3) := by decide +kernel
theorem dX2_factorsAreTrue_14 : decode cX2_factorsAreTrue 14 = .ok (.aload_n 0, 1) := by decide +kernel
theorem dX2_factorsAreTrue_15 : decode cX2_factorsAreTrue 15 = .ok (.getfield 54, 3) := by decide +kernel
theorem dX2_factorsAreTrue_18 : decode cX2_factorsAreTrue 18 = .ok (.iload_n 2, 1) := by decide +kernel
theorem dX2_factorsAreTrue_19 : decode cX2_factorsAreTrue 19 = .ok (.iaload, 1) := by decide +kernel
theorem dX2_factorsAreTrue_20 : decode cX2_factorsAreTrue 20 = .ok (.istore_n 3, 1) := by decide +kernel
theorem dX2_factorsAreTrue_21 : decode cX2_factorsAreTrue 21 = .ok (.aload_n 0, 1) := by decide +kernel
theorem dX2_factorsAreTrue_22 : decode cX2_factorsAreTrue 22 = .ok (.iload_n 2, 1) := by decide +kernel
theorem dX2_factorsAreTrue_23 : decode cX2_factorsAreTrue 23 = .ok (.invokevirtual 57, 3) := by decide +kernel
theorem dX2_factorsAreTrue_26 : decode cX2_factorsAreTrue 26 = .ok (.istore 4, 2) := by decide +kernel
theorem dX2_factorsAreTrue_28 : decode cX2_factorsAreTrue 28 = .ok (.aload_n 0, 1) := by decide +kernel
theorem dX2_factorsAreTrue_29 : decode cX2_factorsAreTrue 29 = .ok (.iload_n 3, 1) := by decide +kernel
theorem dX2_factorsAreTrue_30 : decode cX2_factorsAreTrue 30 = .ok (.iload 4, 2) := by decide +kernel
theorem dX2_factorsAreTrue_32 : decode cX2_factorsAreTrue 32 = .ok (.invokevirtual 61, 3) := by decide +kernel
theorem dX2_factorsAreTrue_35 : decode cX2_factorsAreTrue 35 = .ok (.ifCond .ne 5, 3) := by decide +kernel
theorem dX2_factorsAreTrue_38 : decode cX2_factorsAreTrue 38 = .ok (.iconst 0, 1) := by decide +kernel
theorem dX2_factorsAreTrue_39 : decode cX2_factorsAreTrue 39 = .ok (.ireturn, 1) := by decide +kernel
theorem dX2_factorsAreTrue_40 : decode cX2_factorsAreTrue 40 = .ok (.iload_n 2, 1) := by decide +kernel
theorem dX2_factorsAreTrue_41 : decode cX2_factorsAreTrue 41 = .ok (.iload_n 1, 1) := by decide +kernel
theorem dX2_factorsAreTrue_42 : decode cX2_factorsAreTrue 42 = .ok (.if_icmp .ge 24, 3) := by decide +kernel
theorem dX2_factorsAreTrue_45 : decode cX2_factorsAreTrue 45 = .ok (.aload_n 0, 1) := by decide +kernel
theorem dX2_factorsAreTrue_46 : decode cX2_factorsAreTrue 46 = .ok (.iload_n 3, 1) := by decide +kernel
theorem dX2_factorsAreTrue_47 : decode cX2_factorsAreTrue 47 = .ok (.iload 4, 2) := by decide +kernel
theorem dX2_factorsAreTrue_49 : decode cX2_factorsAreTrue 49 = .ok (.iload 4, 2) := by decide +kernel
theorem dX2_factorsAreTrue_51 : decode cX2_factorsAreTrue 51 = .ok (.aload_n 0, 1) := by decide +kernel
theorem dX2_factorsAreTrue_52 : decode cX2_factorsAreTrue 52 = .ok (.iload_n 2, 1) := by decide +kernel
theorem dX2_factorsAreTrue_53 : decode cX2_factorsAreTrue 53 = .ok (.iconst 1, 1) := by decide +kernel
theorem dX2_factorsAreTrue_54 : decode cX2_factorsAreTrue 54 = .ok (.iadd, 1) := by decide +kernel
theorem dX2_factorsAreTrue_55 : decode cX2_factorsAreTrue 55 = .ok (.invokevirtual 57, 3) := by decide +kernel
theorem dX2_factorsAreTrue_58 : decode cX2_factorsAreTrue 58 = .ok (.invokevirtual 28, 3) := by decide +kernel
theorem dX2_factorsAreTrue_61 : decode cX2_factorsAreTrue 61 = .ok (.ifCond .ge 5, 3) := by decide +kernel
theorem dX2_factorsAreTrue_64 : decode cX2_factorsAreTrue 64 = .ok (.iconst 0, 1) := by decide +kernel
theorem dX2_factorsAreTrue_65 : decode cX2_factorsAreTrue 65 = .ok (.ireturn, 1) := by decide +kernel
theorem dX2_factorsAreTrue_66 : decode cX2_factorsAreTrue 66 = .ok (.iinc 2 1, 3) := by decide +kernel
theorem dX2_factorsAreTrue_69 : decode cX2_factorsAreTrue 69 = .ok (.goto (-60), 3) := by decide +kernel
theorem dX2_factorsAreTrue_72 : decode cX2_factorsAreTrue 72 = .ok (.iload_n 1, 1) := by decide +kernel
theorem dX2_factorsAreTrue_73 : decode cX2_factorsAreTrue 73 = .ok (.ifCond .lt 18, 3) := by decide +kernel
theorem dX2_factorsAreTrue_76 : decode cX2_factorsAreTrue 76 = .ok (.aload_n 0, 1) := by decide +kernel
theorem dX2_factorsAreTrue_77 : decode cX2_factorsAreTrue 77 = .ok (.getfield 54, 3) := by decide +kernel
theorem dX2_factorsAreTrue_80 : decode cX2_factorsAreTrue 80 = .ok (.iload_n 1, 1) := by decide +kernel
theorem dX2_factorsAreTrue_81 : decode cX2_factorsAreTrue 81 = .ok (.iaload, 1) := by decide +kernel
theorem dX2_factorsAreTrue_82 : decode cX2_factorsAreTrue 82 = .ok (.aload_n 0, 1) := by decide +kernel
theorem dX2_factorsAreTrue_83 : decode cX2_factorsAreTrue 83 = .ok (.getfield 17, 3) := by decide +kernel
theorem dX2_factorsAreTrue_86 : decode cX2_factorsAreTrue 86 = .ok (.iconst 0, 1) := by decide +kernel
theorem dX2_factorsAreTrue_87 : decode cX2_factorsAreTrue 87 = .ok (.iaload, 1) := by decide +kernel
theorem dX2_factorsAreTrue_88 : decode cX2_factorsAreTrue 88 = .ok (.if_icmp .ne 7, 3) := by decide +kernel
theorem dX2_factorsAreTrue_91 : decode cX2_factorsAreTrue 91 = .ok (.iconst 1, 1) := by decide +kernel
theorem dX2_factorsAreTrue_92 : decode cX2_factorsAreTrue 92 = .ok (.goto 4, 3) := by decide +kernel
theorem dX2_factorsAreTrue_95 : decode cX2_factorsAreTrue 95 = .ok (.iconst 0, 1) := by decide +kernel
theorem dX2_factorsAreTrue_96 : decode cX2_factorsAreTrue 96 = .ok (.istore_n 2, 1) := by decide +kernel
theorem dX2_factorsAreTrue_97 : decode cX2_factorsAreTrue 97 = .ok (.iload_n 2, 1) := by decide +kernel
theorem dX2_factorsAreTrue_98 : decode cX2_factorsAreTrue 98 = .ok (.ifCond .eq 15, 3) := by decide +kernel
theorem dX2_factorsAreTrue_101 : decode cX2_factorsAreTrue 101 = .ok (.aload_n 0, 1) := by decide +kernel
theorem dX2_factorsAreTrue_102 : decode cX2_factorsAreTrue 102 = .ok (.invokevirtual 65, 3) := by decide +kernel
theorem dX2_factorsAreTrue_105 : decode cX2_factorsAreTrue 105 = .ok (.iconst 1, 1) := by decide +kernel
theorem dX2_factorsAreTrue_106 : decode cX2_factorsAreTrue 106 = .ok (.if_icmp .ne 7, 3) := by decide +kernel
theorem dX2_factorsAreTrue_109 : decode cX2_factorsAreTrue 109 = .ok (.iconst 1, 1) := by decide +kernel
theorem dX2_factorsAreTrue_110 : decode cX2_factorsAreTrue 110 = .ok (.goto 4, 3) := by decide +kernel
theorem dX2_factorsAreTrue_113 : decode cX2_factorsAreTrue 113 = .ok (.iconst 0, 1) := by decide +kernel
theorem dX2_factorsAreTrue_114 : decode cX2_factorsAreTrue 114 = .ok (.ireturn, 1) := by decide +kernel
theorem dX3_init_0 : decode cX3_init 0 = .ok (.aload_n 0, 1) := by decide +kernel
theorem dX3_init_1 : decode cX3_init 1 = .ok (.invokespecial 1, 3) := by decide +kernel
theorem dX3_init_4 : decode cX3_init 4 = .ok (.return_, 1) := by decide +kernel
theorem dX4_init_0 : decode cX4_init 0 = .ok (.aload_n 0, 1) := by decide +kernel
theorem dX4_init_1 : decode cX4_init 1 = .ok (.invokespecial 1, 3) := by decide +kernel
theorem dX4_init_4 : decode cX4_init 4 = .ok (.aload_n 0, 1) := by decide +kernel
theorem dX4_init_5 : decode cX4_init 5 = .ok (.aload_n 1, 1) := by decide +kernel
theorem dX4_init_6 : decode cX4_init 6 = .ok (.putfield 7, 3) := by decide +kernel
theorem dX4_init_9 : decode cX4_init 9 = .ok (.aload_n 0, 1) := by decide +kernel
theorem dX4_init_10 : decode cX4_init 10 = .ok (.iload_n 2, 1) := by decide +kernel
theorem dX4_init_11 : decode cX4_init 11 = .ok (.putfield 13, 3) := by decide +kernel
theorem dX4_init_14 : decode cX4_init 14 = .ok (.aload_n 0, 1) := by decide +kernel
theorem dX4_init_15 : decode cX4_init 15 = .ok (.iload_n 3, 1) := by decide +kernel
theorem dX4_init_16 : decode cX4_init 16 = .ok (.putfield 17, 3) := by decide +kernel
theorem dX4_init_19 : decode cX4_init 19 = .ok (.return_, 1) := by decide +kernel
theorem dX4_size_0 : decode cX4_size 0 = .ok (.aload_n 0, 1) := by decide +kernel
theorem dX4_size_1 : decode cX4_size 1 = .ok (.getfield 17, 3) := by decide +kernel
theorem dX4_size_4 : decode cX4_size 4 = .ok (.aload_n 0, 1) := by decide +kernel
theorem dX4_size_5 : decode cX4_size 5 = .ok (.getfield 13, 3) := by decide +kernel
theorem dX4_size_8 : decode cX4_size 8 = .ok (.isub, 1) := by decide +kernel
theorem dX4_size_9 : decode cX4_size 9 = .ok (.ireturn, 1) := by decide +kernel
theorem dX4_at_0 : decode cX4_at 0 = .ok (.aload_n 0, 1) := by decide +kernel
theorem dX4_at_1 : decode cX4_at 1 = .ok (.getfield 7, 3) := by decide +kernel
theorem dX4_at_4 : decode cX4_at 4 = .ok (.aload_n 0, 1) := by decide +kernel
theorem dX4_at_5 : decode cX4_at 5 = .ok (.getfield 13, 3) := by decide +kernel
theorem dX4_at_8 : decode cX4_at 8 = .ok (.iload_n 1, 1) := by decide +kernel
theorem dX4_at_9 : decode cX4_at 9 = .ok (.iadd, 1) := by decide +kernel
theorem dX4_at_10 : decode cX4_at 10 = .ok (.laload, 1) := by decide +kernel
theorem dX4_at_11 : decode cX4_at 11 = .ok (.lreturn, 1) := by decide +kernel
theorem dX4_changedBy_0 : decode cX4_changedBy 0 = .ok (.aload_n 0, 1) := by decide +kernel
theorem dX4_changedBy_1 : decode cX4_changedBy 1 = .ok (.invokevirtual 20, 3) := by decide +kernel
theorem dX4_changedBy_4 : decode cX4_changedBy 4 = .ok (.newarray .long, 2) := by decide +kernel
theorem dX4_changedBy_6 : decode cX4_changedBy 6 = .ok (.astore_n 3, 1) := by decide +kernel
theorem dX4_changedBy_7 : decode cX4_changedBy 7 = .ok (.iconst 0, 1) := by decide +kernel
theorem dX4_changedBy_8 : decode cX4_changedBy 8 = .ok (.istore 4, 2) := by decide +kernel
theorem dX4_changedBy_10 : decode cX4_changedBy 10 = .ok (.iload 4, 2) := by decide +kernel
theorem dX4_changedBy_12 : decode cX4_changedBy 12 = .ok (.aload_n 3, 1) := by decide +kernel
theorem dX4_changedBy_13 : decode cX4_changedBy 13 = .ok (.arraylength, 1) := by decide +kernel
theorem dX4_changedBy_14 : decode cX4_changedBy 14 = .ok (.if_icmp .ge 24, 3) := by decide +kernel
theorem dX4_changedBy_17 : decode cX4_changedBy 17 = .ok (.aload_n 3, 1) := by decide +kernel
theorem dX4_changedBy_18 : decode cX4_changedBy 18 = .ok (.iload 4, 2) := by decide +kernel
theorem dX4_changedBy_20 : decode cX4_changedBy 20 = .ok (.iload_n 1, 1) := by decide +kernel
theorem dX4_changedBy_21 : decode cX4_changedBy 21 = .ok (.iload_n 2, 1) := by decide +kernel
theorem dX4_changedBy_22 : decode cX4_changedBy 22 = .ok (.aload_n 0, 1) := by decide +kernel
theorem dX4_changedBy_23 : decode cX4_changedBy 23 = .ok (.iload 4, 2) := by decide +kernel
theorem dX4_changedBy_25 : decode cX4_changedBy 25 = .ok (.invokevirtual 24, 3) := by decide +kernel
theorem dX4_changedBy_28 : decode cX4_changedBy 28 = .ok (.invokestatic 28, 3) := by decide +kernel
theorem dX4_changedBy_31 : decode cX4_changedBy 31 = .ok (.lastore, 1) := by decide +kernel
theorem dX4_changedBy_32 : decode cX4_changedBy 32 = .ok (.iinc 4 1, 3) := by decide +kernel
theorem dX4_changedBy_35 : decode cX4_changedBy 35 = .ok (.goto (-25), 3) := by decide +kernel
theorem dX4_changedBy_38 : decode cX4_changedBy 38 = .ok (.new 8, 3) := by decide +kernel
theorem dX4_changedBy_41 : decode cX4_changedBy 41 = .ok (.dup, 1) := by decide +kernel
theorem dX4_changedBy_42 : decode cX4_changedBy 42 = .ok (.aload_n 3, 1) := by decide +kernel
theorem dX4_changedBy_43 : decode cX4_changedBy 43 = .ok (.iconst 0, 1) := by decide +kernel
theorem dX4_changedBy_44 : decode cX4_changedBy 44 = .ok (.aload_n 3, 1) := by decide +kernel
theorem dX4_changedBy_45 : decode cX4_changedBy 45 = .ok (.arraylength, 1) := by decide +kernel
theorem dX4_changedBy_46 : decode cX4_changedBy 46 = .ok (.invokespecial 34, 3) := by decide +kernel
theorem dX4_changedBy_49 : decode cX4_changedBy 49 = .ok (.areturn, 1) := by decide +kernel
theorem dX5_holds_0 : decode cX5_holds 0 = .ok (.iload_n 0, 1) := by decide +kernel
theorem dX5_holds_1 : decode cX5_holds 1 = .ok (.bipush 116, 2) := by decide +kernel
theorem dX5_holds_3 : decode cX5_holds 3 = .ok (.aload_n 1, 1) := by decide +kernel
theorem dX5_holds_4 : decode cX5_holds 4 = .ok (.invokestatic 9, 3) := by decide +kernel
theorem dX5_holds_7 : decode cX5_holds 7 = .ok (.astore_n 2, 1) := by decide +kernel
theorem dX5_holds_8 : decode cX5_holds 8 = .ok (.iload_n 0, 1) := by decide +kernel
theorem dX5_holds_9 : decode cX5_holds 9 = .ok (.iconst 3, 1) := by decide +kernel
theorem dX5_holds_10 : decode cX5_holds 10 = .ok (.if_icmp .ne 7, 3) := by decide +kernel
theorem dX5_holds_13 : decode cX5_holds 13 = .ok (.aload_n 2, 1) := by decide +kernel
theorem dX5_holds_14 : decode cX5_holds 14 = .ok (.goto 10, 3) := by decide +kernel
theorem dX5_holds_17 : decode cX5_holds 17 = .ok (.iload_n 0, 1) := by decide +kernel
theorem dX5_holds_18 : decode cX5_holds 18 = .ok (.bipush 117, 2) := by decide +kernel
theorem dX5_holds_20 : decode cX5_holds 20 = .ok (.aload_n 1, 1) := by decide +kernel
theorem dX5_holds_21 : decode cX5_holds 21 = .ok (.invokestatic 9, 3) := by decide +kernel
theorem dX5_holds_24 : decode cX5_holds 24 = .ok (.astore_n 3, 1) := by decide +kernel
theorem dX5_holds_25 : decode cX5_holds 25 = .ok (.iconst 0, 1) := by decide +kernel
theorem dX5_holds_26 : decode cX5_holds 26 = .ok (.istore 4, 2) := by decide +kernel
theorem dX5_holds_28 : decode cX5_holds 28 = .ok (.iload 4, 2) := by decide +kernel
theorem dX5_holds_30 : decode cX5_holds 30 = .ok (.aload_n 1, 1) := by decide +kernel
theorem dX5_holds_31 : decode cX5_holds 31 = .ok (.arraylength, 1) := by decide +kernel
theorem dX5_holds_32 : decode cX5_holds 32 = .ok (.if_icmp .ge 134, 3) := by decide +kernel
theorem dX5_holds_35 : decode cX5_holds 35 = .ok (.iconst 0, 1) := by decide +kernel
theorem dX5_holds_36 : decode cX5_holds 36 = .ok (.istore 5, 2) := by decide +kernel
theorem dX5_holds_38 : decode cX5_holds 38 = .ok (.iload 5, 2) := by decide +kernel
theorem dX5_holds_40 : decode cX5_holds 40 = .ok (.aload_n 1, 1) := by decide +kernel
theorem dX5_holds_41 : decode cX5_holds 41 = .ok (.arraylength, 1) := by decide +kernel
theorem dX5_holds_42 : decode cX5_holds 42 = .ok (.if_icmp .ge 118, 3) := by decide +kernel
theorem dX5_holds_45 : decode cX5_holds 45 = .ok (.iload 4, 2) := by decide +kernel
theorem dX5_holds_47 : decode cX5_holds 47 = .ok (.iload 5, 2) := by decide +kernel
theorem dX5_holds_49 : decode cX5_holds 49 = .ok (.if_icmp .eq 91, 3) := by decide +kernel
theorem dX5_holds_52 : decode cX5_holds 52 = .ok (.aload_n 1, 1) := by decide +kernel
theorem dX5_holds_53 : decode cX5_holds 53 = .ok (.iload 4, 2) := by decide +kernel
theorem dX5_holds_55 : decode cX5_holds 55 = .ok (.aaload, 1) := by decide +kernel
theorem dX5_holds_56 : decode cX5_holds 56 = .ok (.aload_n 1, 1) := by decide +kernel
theorem dX5_holds_57 : decode cX5_holds 57 = .ok (.iload 5, 2) := by decide +kernel
theorem dX5_holds_59 : decode cX5_holds 59 = .ok (.aaload, 1) := by decide +kernel
theorem dX5_holds_60 : decode cX5_holds 60 = .ok (.invokestatic 15, 3) := by decide +kernel
theorem dX5_holds_63 : decode cX5_holds 63 = .ok (.ifCond .eq 81, 3) := by decide +kernel
theorem dX5_holds_66 : decode cX5_holds 66 = .ok (.aload_n 1, 1) := by decide +kernel
theorem dX5_holds_67 : decode cX5_holds 67 = .ok (.iload 4, 2) := by decide +kernel
theorem dX5_holds_69 : decode cX5_holds 69 = .ok (.aaload, 1) := by decide +kernel
theorem dX5_holds_70 : decode cX5_holds 70 = .ok (.aload_n 1, 1) := by decide +kernel
theorem dX5_holds_71 : decode cX5_holds 71 = .ok (.iload 5, 2) := by decide +kernel
theorem dX5_holds_73 : decode cX5_holds 73 = .ok (.aaload, 1) := by decide +kernel
theorem dX5_holds_74 : decode cX5_holds 74 = .ok (.iconst 0, 1) := by decide +kernel
theorem dX5_holds_75 : decode cX5_holds 75 = .ok (.invokestatic 19, 3) := by decide +kernel
theorem dX5_holds_78 : decode cX5_holds 78 = .ok (.ifCond .eq 66, 3) := by decide +kernel
theorem dX5_holds_81 : decode cX5_holds 81 = .ok (.aload_n 1, 1) := by decide +kernel
theorem dX5_holds_82 : decode cX5_holds 82 = .ok (.iload 4, 2) := by decide +kernel
theorem dX5_holds_84 : decode cX5_holds 84 = .ok (.aaload, 1) := by decide +kernel
theorem dX5_holds_85 : decode cX5_holds 85 = .ok (.aload_n 1, 1) := by decide +kernel
theorem dX5_holds_86 : decode cX5_holds 86 = .ok (.iload 5, 2) := by decide +kernel
theorem dX5_holds_88 : decode cX5_holds 88 = .ok (.aaload, 1) := by decide +kernel
theorem dX5_holds_89 : decode cX5_holds 89 = .ok (.iconst 1, 1) := by decide +kernel
theorem dX5_holds_90 : decode cX5_holds 90 = .ok (.invokestatic 19, 3) := by decide +kernel
theorem dX5_holds_93 : decode cX5_holds 93 = .ok (.ifCond .eq 51, 3) := by decide +kernel
theorem dX5_holds_96 : decode cX5_holds 96 = .ok (.aload_n 1, 1) := by decide +kernel
theorem dX5_holds_97 : decode cX5_holds 97 = .ok (.iload 4, 2) := by decide +kernel
theorem dX5_holds_99 : decode cX5_holds 99 = .ok (.aaload, 1) := by decide +kernel
theorem dX5_holds_100 : decode cX5_holds 100 = .ok (.aload_n 1, 1) := by decide +kernel
theorem dX5_holds_101 : decode cX5_holds 101 = .ok (.iload 5, 2) := by decide +kernel
theorem dX5_holds_103 : decode cX5_holds 103 = .ok (.aaload, 1) := by decide +kernel
theorem dX5_holds_104 : decode cX5_holds 104 = .ok (.aload_n 2, 1) := by decide +kernel
theorem dX5_holds_105 : decode cX5_holds 105 = .ok (.iload 4, 2) := by decide +kernel
theorem dX5_holds_107 : decode cX5_holds 107 = .ok (.aaload, 1) := by decide +kernel
theorem dX5_holds_108 : decode cX5_holds 108 = .ok (.aload_n 2, 1) := by decide +kernel
theorem dX5_holds_109 : decode cX5_holds 109 = .ok (.iload 5, 2) := by decide +kernel
theorem dX5_holds_111 : decode cX5_holds 111 = .ok (.aaload, 1) := by decide +kernel
theorem dX5_holds_112 : decode cX5_holds 112 = .ok (.invokestatic 23, 3) := by decide +kernel
theorem dX5_holds_115 : decode cX5_holds 115 = .ok (.ifCond .eq 29, 3) := by decide +kernel
theorem dX5_holds_118 : decode cX5_holds 118 = .ok (.aload_n 1, 1) := by decide +kernel
theorem dX5_holds_119 : decode cX5_holds 119 = .ok (.iload 4, 2) := by decide +kernel
theorem dX5_holds_121 : decode cX5_holds 121 = .ok (.aaload, 1) := by decide +kernel
theorem dX5_holds_122 : decode cX5_holds 122 = .ok (.aload_n 1, 1) := by decide +kernel
theorem dX5_holds_123 : decode cX5_holds 123 = .ok (.iload 5, 2) := by decide +kernel
theorem dX5_holds_125 : decode cX5_holds 125 = .ok (.aaload, 1) := by decide +kernel
theorem dX5_holds_126 : decode cX5_holds 126 = .ok (.aload_n 3, 1) := by decide +kernel
theorem dX5_holds_127 : decode cX5_holds 127 = .ok (.iload 4, 2) := by decide +kernel
theorem dX5_holds_129 : decode cX5_holds 129 = .ok (.aaload, 1) := by decide +kernel
theorem dX5_holds_130 : decode cX5_holds 130 = .ok (.aload_n 3, 1) := by decide +kernel
theorem dX5_holds_131 : decode cX5_holds 131 = .ok (.iload 5, 2) := by decide +kernel
theorem dX5_holds_133 : decode cX5_holds 133 = .ok (.aaload, 1) := by decide +kernel
theorem dX5_holds_134 : decode cX5_holds 134 = .ok (.invokestatic 23, 3) := by decide +kernel
theorem dX5_holds_137 : decode cX5_holds 137 = .ok (.ifCond .eq 7, 3) := by decide +kernel
theorem dX5_holds_140 : decode cX5_holds 140 = .ok (.iconst 1, 1) := by decide +kernel
theorem dX5_holds_141 : decode cX5_holds 141 = .ok (.goto 4, 3) := by decide +kernel
theorem dX5_holds_144 : decode cX5_holds 144 = .ok (.iconst 0, 1) := by decide +kernel
theorem dX5_holds_145 : decode cX5_holds 145 = .ok (.istore 6, 2) := by decide +kernel
theorem dX5_holds_147 : decode cX5_holds 147 = .ok (.iload 6, 2) := by decide +kernel
theorem dX5_holds_149 : decode cX5_holds 149 = .ok (.ifCond .ne 5, 3) := by decide +kernel
theorem dX5_holds_152 : decode cX5_holds 152 = .ok (.iconst 0, 1) := by decide +kernel
theorem dX5_holds_153 : decode cX5_holds 153 = .ok (.ireturn, 1) := by decide +kernel
theorem dX5_holds_154 : decode cX5_holds 154 = .ok (.iinc 5 1, 3) := by decide +kernel
theorem dX5_holds_157 : decode cX5_holds 157 = .ok (.goto (-119), 3) := by decide +kernel
theorem dX5_holds_160 : decode cX5_holds 160 = .ok (.iinc 4 1, 3) := by decide +kernel
theorem dX5_holds_163 : decode cX5_holds 163 = .ok (.goto (-135), 3) := by decide +kernel
theorem dX5_holds_166 : decode cX5_holds 166 = .ok (.aload_n 1, 1) := by decide +kernel
theorem dX5_holds_167 : decode cX5_holds 167 = .ok (.iconst 0, 1) := by decide +kernel
theorem dX5_holds_168 : decode cX5_holds 168 = .ok (.invokestatic 27, 3) := by decide +kernel
theorem dX5_holds_171 : decode cX5_holds 171 = .ok (.ifCond .eq 15, 3) := by decide +kernel
theorem dX5_holds_174 : decode cX5_holds 174 = .ok (.aload_n 1, 1) := by decide +kernel
theorem dX5_holds_175 : decode cX5_holds 175 = .ok (.iconst 1, 1) := by decide +kernel
theorem dX5_holds_176 : decode cX5_holds 176 = .ok (.invokestatic 27, 3) := by decide +kernel
theorem dX5_holds_179 : decode cX5_holds 179 = .ok (.ifCond .eq 7, 3) := by decide +kernel
theorem dX5_holds_182 : decode cX5_holds 182 = .ok (.iconst 1, 1) := by decide +kernel
theorem dX5_holds_183 : decode cX5_holds 183 = .ok (.goto 4, 3) := by decide +kernel
theorem dX5_holds_186 : decode cX5_holds 186 = .ok (.iconst 0, 1) := by decide +kernel
theorem dX5_holds_187 : decode cX5_holds 187 = .ok (.ireturn, 1) := by decide +kernel
theorem dX5_changedWords_0 : decode cX5_changedWords 0 = .ok (.aload_n 2, 1) := by decide +kernel
theorem dX5_changedWords_1 : decode cX5_changedWords 1 = .ok (.arraylength, 1) := by decide +kernel
theorem dX5_changedWords_2 : decode cX5_changedWords 2 = .ok (.anewarray 31, 3) := by decide +kernel
theorem dX5_changedWords_5 : decode cX5_changedWords 5 = .ok (.astore_n 3, 1) := by decide +kernel
theorem dX5_changedWords_6 : decode cX5_changedWords 6 = .ok (.iconst 0, 1) := by decide +kernel
theorem dX5_changedWords_7 : decode cX5_changedWords 7 = .ok (.istore 4, 2) := by decide +kernel
theorem dX5_changedWords_9 : decode cX5_changedWords 9 = .ok (.iload 4, 2) := by decide +kernel
theorem dX5_changedWords_11 : decode cX5_changedWords 11 = .ok (.aload_n 2, 1) := by decide +kernel
theorem dX5_changedWords_12 : decode cX5_changedWords 12 = .ok (.arraylength, 1) := by decide +kernel
theorem dX5_changedWords_13 : decode cX5_changedWords 13 = .ok (.if_icmp .ge 22, 3) := by decide +kernel
theorem dX5_changedWords_16 : decode cX5_changedWords 16 = .ok (.aload_n 3, 1) := by decide +kernel
theorem dX5_changedWords_17 : decode cX5_changedWords 17 = .ok (.iload 4, 2) := by decide +kernel
theorem dX5_changedWords_19 : decode cX5_changedWords 19 = .ok (.aload_n 2, 1) := by decide +kernel
theorem dX5_changedWords_20 : decode cX5_changedWords 20 = .ok (.iload 4, 2) := by decide +kernel
theorem dX5_changedWords_22 : decode cX5_changedWords 22 = .ok (.aaload, 1) := by decide +kernel
theorem dX5_changedWords_23 : decode cX5_changedWords 23 = .ok (.iload_n 0, 1) := by decide +kernel
theorem dX5_changedWords_24 : decode cX5_changedWords 24 = .ok (.iload_n 1, 1) := by decide +kernel
theorem dX5_changedWords_25 : decode cX5_changedWords 25 = .ok (.invokevirtual 33, 3) := by decide +kernel
theorem dX5_changedWords_28 : decode cX5_changedWords 28 = .ok (.aastore, 1) := by decide +kernel
theorem dX5_changedWords_29 : decode cX5_changedWords 29 = .ok (.iinc 4 1, 3) := by decide +kernel
theorem dX5_changedWords_32 : decode cX5_changedWords 32 = .ok (.goto (-23), 3) := by decide +kernel
theorem dX5_changedWords_35 : decode cX5_changedWords 35 = .ok (.aload_n 3, 1) := by decide +kernel
theorem dX5_changedWords_36 : decode cX5_changedWords 36 = .ok (.areturn, 1) := by decide +kernel
theorem dX5_alikeIsTrue_0 : decode cX5_alikeIsTrue 0 = .ok (.aload_n 0, 1) := by decide +kernel
theorem dX5_alikeIsTrue_1 : decode cX5_alikeIsTrue 1 = .ok (.aload_n 1, 1) := by decide +kernel
theorem dX5_alikeIsTrue_2 : decode cX5_alikeIsTrue 2 = .ok (.invokestatic 37, 3) := by decide +kernel
theorem dX5_alikeIsTrue_5 : decode cX5_alikeIsTrue 5 = .ok (.istore_n 2, 1) := by decide +kernel
theorem dX5_alikeIsTrue_6 : decode cX5_alikeIsTrue 6 = .ok (.iload_n 2, 1) := by decide +kernel
theorem dX5_alikeIsTrue_7 : decode cX5_alikeIsTrue 7 = .ok (.iconst (-1), 1) := by decide +kernel
theorem dX5_alikeIsTrue_8 : decode cX5_alikeIsTrue 8 = .ok (.if_icmp .ne 7, 3) := by decide +kernel
theorem dX5_alikeIsTrue_11 : decode cX5_alikeIsTrue 11 = .ok (.iconst 1, 1) := by decide +kernel
theorem dX5_alikeIsTrue_12 : decode cX5_alikeIsTrue 12 = .ok (.goto 4, 3) := by decide +kernel
theorem dX5_alikeIsTrue_15 : decode cX5_alikeIsTrue 15 = .ok (.iconst 0, 1) := by decide +kernel
theorem dX5_alikeIsTrue_16 : decode cX5_alikeIsTrue 16 = .ok (.istore_n 3, 1) := by decide +kernel
theorem dX5_alikeIsTrue_17 : decode cX5_alikeIsTrue 17 = .ok (.iload_n 3, 1) := by decide +kernel
theorem dX5_alikeIsTrue_18 : decode cX5_alikeIsTrue 18 = .ok (.ifCond .eq 10, 3) := by decide +kernel
theorem dX5_alikeIsTrue_21 : decode cX5_alikeIsTrue 21 = .ok (.aload_n 0, 1) := by decide +kernel
theorem dX5_alikeIsTrue_22 : decode cX5_alikeIsTrue 22 = .ok (.invokevirtual 41, 3) := by decide +kernel
theorem dX5_alikeIsTrue_25 : decode cX5_alikeIsTrue 25 = .ok (.goto 4, 3) := by decide +kernel
theorem dX5_alikeIsTrue_28 : decode cX5_alikeIsTrue 28 = .ok (.iload_n 2, 1) := by decide +kernel
theorem dX5_alikeIsTrue_29 : decode cX5_alikeIsTrue 29 = .ok (.istore 4, 2) := by decide +kernel
theorem dX5_alikeIsTrue_31 : decode cX5_alikeIsTrue 31 = .ok (.iload 4, 2) := by decide +kernel
theorem dX5_alikeIsTrue_33 : decode cX5_alikeIsTrue 33 = .ok (.ifCond .lt 21, 3) := by decide +kernel
theorem dX5_alikeIsTrue_36 : decode cX5_alikeIsTrue 36 = .ok (.iload 4, 2) := by decide +kernel
theorem dX5_alikeIsTrue_38 : decode cX5_alikeIsTrue 38 = .ok (.aload_n 0, 1) := by decide +kernel
theorem dX5_alikeIsTrue_39 : decode cX5_alikeIsTrue 39 = .ok (.invokevirtual 41, 3) := by decide +kernel
theorem dX5_alikeIsTrue_42 : decode cX5_alikeIsTrue 42 = .ok (.if_icmp .gt 12, 3) := by decide +kernel
theorem dX5_alikeIsTrue_45 : decode cX5_alikeIsTrue 45 = .ok (.iload 4, 2) := by decide +kernel
theorem dX5_alikeIsTrue_47 : decode cX5_alikeIsTrue 47 = .ok (.aload_n 1, 1) := by decide +kernel
theorem dX5_alikeIsTrue_48 : decode cX5_alikeIsTrue 48 = .ok (.invokevirtual 41, 3) := by decide +kernel
theorem dX5_alikeIsTrue_51 : decode cX5_alikeIsTrue 51 = .ok (.if_icmp .le 5, 3) := by decide +kernel
theorem dX5_alikeIsTrue_54 : decode cX5_alikeIsTrue 54 = .ok (.iconst 0, 1) := by decide +kernel
theorem dX5_alikeIsTrue_55 : decode cX5_alikeIsTrue 55 = .ok (.ireturn, 1) := by decide +kernel
theorem dX5_alikeIsTrue_56 : decode cX5_alikeIsTrue 56 = .ok (.iconst 0, 1) := by decide +kernel
theorem dX5_alikeIsTrue_57 : decode cX5_alikeIsTrue 57 = .ok (.istore 5, 2) := by decide +kernel
theorem dX5_alikeIsTrue_59 : decode cX5_alikeIsTrue 59 = .ok (.iload 5, 2) := by decide +kernel
theorem dX5_alikeIsTrue_61 : decode cX5_alikeIsTrue 61 = .ok (.iload 4, 2) := by decide +kernel
theorem dX5_alikeIsTrue_63 : decode cX5_alikeIsTrue 63 = .ok (.if_icmp .ge 27, 3) := by decide +kernel
theorem dX5_alikeIsTrue_66 : decode cX5_alikeIsTrue 66 = .ok (.aload_n 0, 1) := by decide +kernel
theorem dX5_alikeIsTrue_67 : decode cX5_alikeIsTrue 67 = .ok (.iload 5, 2) := by decide +kernel
theorem dX5_alikeIsTrue_69 : decode cX5_alikeIsTrue 69 = .ok (.invokevirtual 45, 3) := by decide +kernel
theorem dX5_alikeIsTrue_72 : decode cX5_alikeIsTrue 72 = .ok (.aload_n 1, 1) := by decide +kernel
theorem dX5_alikeIsTrue_73 : decode cX5_alikeIsTrue 73 = .ok (.iload 5, 2) := by decide +kernel
theorem dX5_alikeIsTrue_75 : decode cX5_alikeIsTrue 75 = .ok (.invokevirtual 45, 3) := by decide +kernel
theorem dX5_alikeIsTrue_78 : decode cX5_alikeIsTrue 78 = .ok (.lcmp, 1) := by decide +kernel
theorem dX5_alikeIsTrue_79 : decode cX5_alikeIsTrue 79 = .ok (.ifCond .eq 5, 3) := by decide +kernel
theorem dX5_alikeIsTrue_82 : decode cX5_alikeIsTrue 82 = .ok (.iconst 0, 1) := by decide +kernel
theorem dX5_alikeIsTrue_83 : decode cX5_alikeIsTrue 83 = .ok (.ireturn, 1) := by decide +kernel
theorem dX5_alikeIsTrue_84 : decode cX5_alikeIsTrue 84 = .ok (.iinc 5 1, 3) := by decide +kernel
theorem dX5_alikeIsTrue_87 : decode cX5_alikeIsTrue 87 = .ok (.goto (-28), 3) := by decide +kernel
theorem dX5_alikeIsTrue_90 : decode cX5_alikeIsTrue 90 = .ok (.iload 4, 2) := by decide +kernel
theorem dX5_alikeIsTrue_92 : decode cX5_alikeIsTrue 92 = .ok (.aload_n 0, 1) := by decide +kernel
theorem dX5_alikeIsTrue_93 : decode cX5_alikeIsTrue 93 = .ok (.invokevirtual 41, 3) := by decide +kernel
theorem dX5_alikeIsTrue_96 : decode cX5_alikeIsTrue 96 = .ok (.if_icmp .ge 16, 3) := by decide +kernel
theorem dX5_alikeIsTrue_99 : decode cX5_alikeIsTrue 99 = .ok (.iload 4, 2) := by decide +kernel
theorem dX5_alikeIsTrue_101 : decode cX5_alikeIsTrue 101 = .ok (.aload_n 1, 1) := by decide +kernel
theorem dX5_alikeIsTrue_102 : decode cX5_alikeIsTrue 102 = .ok (.invokevirtual 41, 3) := by decide +kernel
theorem dX5_alikeIsTrue_105 : decode cX5_alikeIsTrue 105 = .ok (.if_icmp .ge 7, 3) := by decide +kernel
theorem dX5_alikeIsTrue_108 : decode cX5_alikeIsTrue 108 = .ok (.iconst 1, 1) := by decide +kernel
theorem dX5_alikeIsTrue_109 : decode cX5_alikeIsTrue 109 = .ok (.goto 4, 3) := by decide +kernel
theorem dX5_alikeIsTrue_112 : decode cX5_alikeIsTrue 112 = .ok (.iconst 0, 1) := by decide +kernel
theorem dX5_alikeIsTrue_113 : decode cX5_alikeIsTrue 113 = .ok (.istore 5, 2) := by decide +kernel
theorem dX5_alikeIsTrue_115 : decode cX5_alikeIsTrue 115 = .ok (.iload 4, 2) := by decide +kernel
theorem dX5_alikeIsTrue_117 : decode cX5_alikeIsTrue 117 = .ok (.aload_n 0, 1) := by decide +kernel
theorem dX5_alikeIsTrue_118 : decode cX5_alikeIsTrue 118 = .ok (.invokevirtual 41, 3) := by decide +kernel
theorem dX5_alikeIsTrue_121 : decode cX5_alikeIsTrue 121 = .ok (.if_icmp .ne 16, 3) := by decide +kernel
theorem dX5_alikeIsTrue_124 : decode cX5_alikeIsTrue 124 = .ok (.iload 4, 2) := by decide +kernel
theorem dX5_alikeIsTrue_126 : decode cX5_alikeIsTrue 126 = .ok (.aload_n 1, 1) := by decide +kernel
theorem dX5_alikeIsTrue_127 : decode cX5_alikeIsTrue 127 = .ok (.invokevirtual 41, 3) := by decide +kernel
theorem dX5_alikeIsTrue_130 : decode cX5_alikeIsTrue 130 = .ok (.if_icmp .ne 7, 3) := by decide +kernel
theorem dX5_alikeIsTrue_133 : decode cX5_alikeIsTrue 133 = .ok (.iconst 1, 1) := by decide +kernel
theorem dX5_alikeIsTrue_134 : decode cX5_alikeIsTrue 134 = .ok (.goto 4, 3) := by decide +kernel
theorem dX5_alikeIsTrue_137 : decode cX5_alikeIsTrue 137 = .ok (.iconst 0, 1) := by decide +kernel
theorem dX5_alikeIsTrue_138 : decode cX5_alikeIsTrue 138 = .ok (.istore 6, 2) := by decide +kernel
theorem dX5_alikeIsTrue_140 : decode cX5_alikeIsTrue 140 = .ok (.iload 5, 2) := by decide +kernel
theorem dX5_alikeIsTrue_142 : decode cX5_alikeIsTrue 142 = .ok (.ifCond .eq 19, 3) := by decide +kernel
theorem dX5_alikeIsTrue_145 : decode cX5_alikeIsTrue 145 = .ok (.aload_n 0, 1) := by decide +kernel
theorem dX5_alikeIsTrue_146 : decode cX5_alikeIsTrue 146 = .ok (.iload 4, 2) := by decide +kernel
theorem dX5_alikeIsTrue_148 : decode cX5_alikeIsTrue 148 = .ok (.invokevirtual 45, 3) := by decide +kernel
theorem dX5_alikeIsTrue_151 : decode cX5_alikeIsTrue 151 = .ok (.aload_n 1, 1) := by decide +kernel
theorem dX5_alikeIsTrue_152 : decode cX5_alikeIsTrue 152 = .ok (.iload 4, 2) := by decide +kernel
theorem dX5_alikeIsTrue_154 : decode cX5_alikeIsTrue 154 = .ok (.invokevirtual 45, 3) := by decide +kernel
theorem dX5_alikeIsTrue_157 : decode cX5_alikeIsTrue 157 = .ok (.lcmp, 1) := by decide +kernel
theorem dX5_alikeIsTrue_158 : decode cX5_alikeIsTrue 158 = .ok (.ifCond .eq 58, 3) := by decide +kernel
theorem dX5_alikeIsTrue_161 : decode cX5_alikeIsTrue 161 = .ok (.iload_n 3, 1) := by decide +kernel
theorem dX5_alikeIsTrue_162 : decode cX5_alikeIsTrue 162 = .ok (.iload 6, 2) := by decide +kernel
theorem dX5_alikeIsTrue_164 : decode cX5_alikeIsTrue 164 = .ok (.if_icmp .ne 52, 3) := by decide +kernel
theorem dX5_alikeIsTrue_167 : decode cX5_alikeIsTrue 167 = .ok (.iload_n 3, 1) := by decide +kernel
theorem dX5_alikeIsTrue_168 : decode cX5_alikeIsTrue 168 = .ok (.aload_n 0, 1) := by decide +kernel
theorem dX5_alikeIsTrue_169 : decode cX5_alikeIsTrue 169 = .ok (.aload_n 1, 1) := by decide +kernel
theorem dX5_alikeIsTrue_170 : decode cX5_alikeIsTrue 170 = .ok (.invokestatic 49, 3) := by decide +kernel
theorem dX5_alikeIsTrue_173 : decode cX5_alikeIsTrue 173 = .ok (.if_icmp .ne 43, 3) := by decide +kernel
theorem dX5_alikeIsTrue_176 : decode cX5_alikeIsTrue 176 = .ok (.iload_n 3, 1) := by decide +kernel
theorem dX5_alikeIsTrue_177 : decode cX5_alikeIsTrue 177 = .ok (.aload_n 0, 1) := by decide +kernel
theorem dX5_alikeIsTrue_178 : decode cX5_alikeIsTrue 178 = .ok (.aload_n 1, 1) := by decide +kernel
theorem dX5_alikeIsTrue_179 : decode cX5_alikeIsTrue 179 = .ok (.iconst 0, 1) := by decide +kernel
theorem dX5_alikeIsTrue_180 : decode cX5_alikeIsTrue 180 = .ok (.invokestatic 52, 3) := by decide +kernel
theorem dX5_alikeIsTrue_183 : decode cX5_alikeIsTrue 183 = .ok (.ifCond .ne 7, 3) := by decide +kernel
theorem dX5_alikeIsTrue_186 : decode cX5_alikeIsTrue 186 = .ok (.iconst 1, 1) := by decide +kernel
theorem dX5_alikeIsTrue_187 : decode cX5_alikeIsTrue 187 = .ok (.goto 4, 3) := by decide +kernel
theorem dX5_alikeIsTrue_190 : decode cX5_alikeIsTrue 190 = .ok (.iconst 0, 1) := by decide +kernel
theorem dX5_alikeIsTrue_191 : decode cX5_alikeIsTrue 191 = .ok (.if_icmp .ne 25, 3) := by decide +kernel
theorem dX5_alikeIsTrue_194 : decode cX5_alikeIsTrue 194 = .ok (.iload_n 3, 1) := by decide +kernel
theorem dX5_alikeIsTrue_195 : decode cX5_alikeIsTrue 195 = .ok (.aload_n 0, 1) := by decide +kernel
theorem dX5_alikeIsTrue_196 : decode cX5_alikeIsTrue 196 = .ok (.aload_n 1, 1) := by decide +kernel
theorem dX5_alikeIsTrue_197 : decode cX5_alikeIsTrue 197 = .ok (.iconst 1, 1) := by decide +kernel
theorem dX5_alikeIsTrue_198 : decode cX5_alikeIsTrue 198 = .ok (.invokestatic 52, 3) := by decide +kernel
theorem dX5_alikeIsTrue_201 : decode cX5_alikeIsTrue 201 = .ok (.ifCond .ne 7, 3) := by decide +kernel
theorem dX5_alikeIsTrue_204 : decode cX5_alikeIsTrue 204 = .ok (.iconst 1, 1) := by decide +kernel
theorem dX5_alikeIsTrue_205 : decode cX5_alikeIsTrue 205 = .ok (.goto 4, 3) := by decide +kernel
theorem dX5_alikeIsTrue_208 : decode cX5_alikeIsTrue 208 = .ok (.iconst 0, 1) := by decide +kernel
theorem dX5_alikeIsTrue_209 : decode cX5_alikeIsTrue 209 = .ok (.if_icmp .ne 7, 3) := by decide +kernel
theorem dX5_alikeIsTrue_212 : decode cX5_alikeIsTrue 212 = .ok (.iconst 1, 1) := by decide +kernel
theorem dX5_alikeIsTrue_213 : decode cX5_alikeIsTrue 213 = .ok (.goto 4, 3) := by decide +kernel
theorem dX5_alikeIsTrue_216 : decode cX5_alikeIsTrue 216 = .ok (.iconst 0, 1) := by decide +kernel
theorem dX5_alikeIsTrue_217 : decode cX5_alikeIsTrue 217 = .ok (.ireturn, 1) := by decide +kernel
theorem dX5_orderIsTrue_0 : decode cX5_orderIsTrue 0 = .ok (.aload_n 0, 1) := by decide +kernel
theorem dX5_orderIsTrue_1 : decode cX5_orderIsTrue 1 = .ok (.aload_n 1, 1) := by decide +kernel
theorem dX5_orderIsTrue_2 : decode cX5_orderIsTrue 2 = .ok (.iload_n 2, 1) := by decide +kernel
theorem dX5_orderIsTrue_3 : decode cX5_orderIsTrue 3 = .ok (.invokestatic 52, 3) := by decide +kernel
theorem dX5_orderIsTrue_6 : decode cX5_orderIsTrue 6 = .ok (.istore_n 3, 1) := by decide +kernel
theorem dX5_orderIsTrue_7 : decode cX5_orderIsTrue 7 = .ok (.aload_n 0, 1) := by decide +kernel
theorem dX5_orderIsTrue_8 : decode cX5_orderIsTrue 8 = .ok (.aload_n 1, 1) := by decide +kernel
theorem dX5_orderIsTrue_9 : decode cX5_orderIsTrue 9 = .ok (.invokestatic 56, 3) := by decide +kernel
theorem dX5_orderIsTrue_12 : decode cX5_orderIsTrue 12 = .ok (.istore 4, 2) := by decide +kernel
theorem dX5_orderIsTrue_14 : decode cX5_orderIsTrue 14 = .ok (.iload 4, 2) := by decide +kernel
theorem dX5_orderIsTrue_16 : decode cX5_orderIsTrue 16 = .ok (.aload_n 0, 1) := by decide +kernel
theorem dX5_orderIsTrue_17 : decode cX5_orderIsTrue 17 = .ok (.invokevirtual 41, 3) := by decide +kernel
theorem dX5_orderIsTrue_20 : decode cX5_orderIsTrue 20 = .ok (.if_icmp .ge 16, 3) := by decide +kernel
theorem dX5_orderIsTrue_23 : decode cX5_orderIsTrue 23 = .ok (.iload 4, 2) := by decide +kernel
theorem dX5_orderIsTrue_25 : decode cX5_orderIsTrue 25 = .ok (.aload_n 1, 1) := by decide +kernel
theorem dX5_orderIsTrue_26 : decode cX5_orderIsTrue 26 = .ok (.invokevirtual 41, 3) := by decide +kernel
theorem dX5_orderIsTrue_29 : decode cX5_orderIsTrue 29 = .ok (.if_icmp .ge 7, 3) := by decide +kernel
theorem dX5_orderIsTrue_32 : decode cX5_orderIsTrue 32 = .ok (.iconst 1, 1) := by decide +kernel
theorem dX5_orderIsTrue_33 : decode cX5_orderIsTrue 33 = .ok (.goto 4, 3) := by decide +kernel
theorem dX5_orderIsTrue_36 : decode cX5_orderIsTrue 36 = .ok (.iconst 0, 1) := by decide +kernel
theorem dX5_orderIsTrue_37 : decode cX5_orderIsTrue 37 = .ok (.istore 5, 2) := by decide +kernel
theorem dX5_orderIsTrue_39 : decode cX5_orderIsTrue 39 = .ok (.iload 5, 2) := by decide +kernel
theorem dX5_orderIsTrue_41 : decode cX5_orderIsTrue 41 = .ok (.ifCond .eq 22, 3) := by decide +kernel
theorem dX5_orderIsTrue_44 : decode cX5_orderIsTrue 44 = .ok (.aload_n 0, 1) := by decide +kernel
theorem dX5_orderIsTrue_45 : decode cX5_orderIsTrue 45 = .ok (.iload 4, 2) := by decide +kernel
theorem dX5_orderIsTrue_47 : decode cX5_orderIsTrue 47 = .ok (.invokevirtual 45, 3) := by decide +kernel
theorem dX5_orderIsTrue_50 : decode cX5_orderIsTrue 50 = .ok (.aload_n 1, 1) := by decide +kernel
theorem dX5_orderIsTrue_51 : decode cX5_orderIsTrue 51 = .ok (.iload 4, 2) := by decide +kernel
theorem dX5_orderIsTrue_53 : decode cX5_orderIsTrue 53 = .ok (.invokevirtual 45, 3) := by decide +kernel
theorem dX5_orderIsTrue_56 : decode cX5_orderIsTrue 56 = .ok (.iload_n 2, 1) := by decide +kernel
theorem dX5_orderIsTrue_57 : decode cX5_orderIsTrue 57 = .ok (.invokestatic 59, 3) := by decide +kernel
theorem dX5_orderIsTrue_60 : decode cX5_orderIsTrue 60 = .ok (.goto 17, 3) := by decide +kernel
theorem dX5_orderIsTrue_63 : decode cX5_orderIsTrue 63 = .ok (.aload_n 0, 1) := by decide +kernel
theorem dX5_orderIsTrue_64 : decode cX5_orderIsTrue 64 = .ok (.invokevirtual 41, 3) := by decide +kernel
theorem dX5_orderIsTrue_67 : decode cX5_orderIsTrue 67 = .ok (.i2l, 1) := by decide +kernel
theorem dX5_orderIsTrue_68 : decode cX5_orderIsTrue 68 = .ok (.aload_n 1, 1) := by decide +kernel
theorem dX5_orderIsTrue_69 : decode cX5_orderIsTrue 69 = .ok (.invokevirtual 41, 3) := by decide +kernel
theorem dX5_orderIsTrue_72 : decode cX5_orderIsTrue 72 = .ok (.i2l, 1) := by decide +kernel
theorem dX5_orderIsTrue_73 : decode cX5_orderIsTrue 73 = .ok (.iconst 0, 1) := by decide +kernel
theorem dX5_orderIsTrue_74 : decode cX5_orderIsTrue 74 = .ok (.invokestatic 59, 3) := by decide +kernel
theorem dX5_orderIsTrue_77 : decode cX5_orderIsTrue 77 = .ok (.istore 6, 2) := by decide +kernel
theorem dX5_orderIsTrue_79 : decode cX5_orderIsTrue 79 = .ok (.iload_n 3, 1) := by decide +kernel
theorem dX5_orderIsTrue_80 : decode cX5_orderIsTrue 80 = .ok (.iload 6, 2) := by decide +kernel
theorem dX5_orderIsTrue_82 : decode cX5_orderIsTrue 82 = .ok (.if_icmp .ne 18, 3) := by decide +kernel
theorem dX5_orderIsTrue_85 : decode cX5_orderIsTrue 85 = .ok (.aload_n 1, 1) := by decide +kernel
theorem dX5_orderIsTrue_86 : decode cX5_orderIsTrue 86 = .ok (.aload_n 0, 1) := by decide +kernel
theorem dX5_orderIsTrue_87 : decode cX5_orderIsTrue 87 = .ok (.iload_n 2, 1) := by decide +kernel
theorem dX5_orderIsTrue_88 : decode cX5_orderIsTrue 88 = .ok (.invokestatic 52, 3) := by decide +kernel
theorem dX5_orderIsTrue_91 : decode cX5_orderIsTrue 91 = .ok (.iload_n 3, 1) := by decide +kernel
theorem dX5_orderIsTrue_92 : decode cX5_orderIsTrue 92 = .ok (.ineg, 1) := by decide +kernel
theorem dX5_orderIsTrue_93 : decode cX5_orderIsTrue 93 = .ok (.if_icmp .ne 7, 3) := by decide +kernel
theorem dX5_orderIsTrue_96 : decode cX5_orderIsTrue 96 = .ok (.iconst 1, 1) := by decide +kernel
theorem dX5_orderIsTrue_97 : decode cX5_orderIsTrue 97 = .ok (.goto 4, 3) := by decide +kernel
theorem dX5_orderIsTrue_100 : decode cX5_orderIsTrue 100 = .ok (.iconst 0, 1) := by decide +kernel
theorem dX5_orderIsTrue_101 : decode cX5_orderIsTrue 101 = .ok (.ireturn, 1) := by decide +kernel
theorem dX5_isUnsignedOf_0 : decode cX5_isUnsignedOf 0 = .ok (.aload_n 0, 1) := by decide +kernel
theorem dX5_isUnsignedOf_1 : decode cX5_isUnsignedOf 1 = .ok (.aload_n 1, 1) := by decide +kernel
theorem dX5_isUnsignedOf_2 : decode cX5_isUnsignedOf 2 = .ok (.iconst 1, 1) := by decide +kernel
theorem dX5_isUnsignedOf_3 : decode cX5_isUnsignedOf 3 = .ok (.invokestatic 52, 3) := by decide +kernel
theorem dX5_isUnsignedOf_6 : decode cX5_isUnsignedOf 6 = .ok (.aload_n 2, 1) := by decide +kernel
theorem dX5_isUnsignedOf_7 : decode cX5_isUnsignedOf 7 = .ok (.aload_n 3, 1) := by decide +kernel
theorem dX5_isUnsignedOf_8 : decode cX5_isUnsignedOf 8 = .ok (.iconst 0, 1) := by decide +kernel
theorem dX5_isUnsignedOf_9 : decode cX5_isUnsignedOf 9 = .ok (.invokestatic 52, 3) := by decide +kernel
theorem dX5_isUnsignedOf_12 : decode cX5_isUnsignedOf 12 = .ok (.if_icmp .ne 7, 3) := by decide +kernel
theorem dX5_isUnsignedOf_15 : decode cX5_isUnsignedOf 15 = .ok (.iconst 1, 1) := by decide +kernel
theorem dX5_isUnsignedOf_16 : decode cX5_isUnsignedOf 16 = .ok (.goto 4, 3) := by decide +kernel
theorem dX5_isUnsignedOf_19 : decode cX5_isUnsignedOf 19 = .ok (.iconst 0, 1) := by decide +kernel
theorem dX5_isUnsignedOf_20 : decode cX5_isUnsignedOf 20 = .ok (.ireturn, 1) := by decide +kernel
theorem dX5_threeAreTrue_0 : decode cX5_threeAreTrue 0 = .ok (.iconst 0, 1) := by decide +kernel
theorem dX5_threeAreTrue_1 : decode cX5_threeAreTrue 1 = .ok (.istore_n 2, 1) := by decide +kernel
theorem dX5_threeAreTrue_2 : decode cX5_threeAreTrue 2 = .ok (.iload_n 2, 1) := by decide +kernel
theorem dX5_threeAreTrue_3 : decode cX5_threeAreTrue 3 = .ok (.aload_n 0, 1) := by decide +kernel
theorem dX5_threeAreTrue_4 : decode cX5_threeAreTrue 4 = .ok (.arraylength, 1) := by decide +kernel
theorem dX5_threeAreTrue_5 : decode cX5_threeAreTrue 5 = .ok (.if_icmp .ge 87, 3) := by decide +kernel
theorem dX5_threeAreTrue_8 : decode cX5_threeAreTrue 8 = .ok (.iconst 0, 1) := by decide +kernel
theorem dX5_threeAreTrue_9 : decode cX5_threeAreTrue 9 = .ok (.istore_n 3, 1) := by decide +kernel
theorem dX5_threeAreTrue_10 : decode cX5_threeAreTrue 10 = .ok (.iload_n 3, 1) := by decide +kernel
theorem dX5_threeAreTrue_11 : decode cX5_threeAreTrue 11 = .ok (.aload_n 0, 1) := by decide +kernel
theorem dX5_threeAreTrue_12 : decode cX5_threeAreTrue 12 = .ok (.arraylength, 1) := by decide +kernel
theorem dX5_threeAreTrue_13 : decode cX5_threeAreTrue 13 = .ok (.if_icmp .ge 73, 3) := by decide +kernel
theorem dX5_threeAreTrue_16 : decode cX5_threeAreTrue 16 = .ok (.iconst 0, 1) := by decide +kernel
theorem dX5_threeAreTrue_17 : decode cX5_threeAreTrue 17 = .ok (.istore 4, 2) := by decide +kernel
theorem dX5_threeAreTrue_19 : decode cX5_threeAreTrue 19 = .ok (.iload 4, 2) := by decide +kernel
theorem dX5_threeAreTrue_21 : decode cX5_threeAreTrue 21 = .ok (.aload_n 0, 1) := by decide +kernel
theorem dX5_threeAreTrue_22 : decode cX5_threeAreTrue 22 = .ok (.arraylength, 1) := by decide +kernel
theorem dX5_threeAreTrue_23 : decode cX5_threeAreTrue 23 = .ok (.if_icmp .ge 57, 3) := by decide +kernel
theorem dX5_threeAreTrue_26 : decode cX5_threeAreTrue 26 = .ok (.iload_n 2, 1) := by decide +kernel
theorem dX5_threeAreTrue_27 : decode cX5_threeAreTrue 27 = .ok (.iload_n 3, 1) := by decide +kernel
theorem dX5_threeAreTrue_28 : decode cX5_threeAreTrue 28 = .ok (.if_icmp .eq 19, 3) := by decide +kernel
theorem dX5_threeAreTrue_31 : decode cX5_threeAreTrue 31 = .ok (.iload_n 3, 1) := by decide +kernel
theorem dX5_threeAreTrue_32 : decode cX5_threeAreTrue 32 = .ok (.iload 4, 2) := by decide +kernel
theorem dX5_threeAreTrue_34 : decode cX5_threeAreTrue 34 = .ok (.if_icmp .eq 13, 3) := by decide +kernel
theorem dX5_threeAreTrue_37 : decode cX5_threeAreTrue 37 = .ok (.iload_n 2, 1) := by decide +kernel
theorem dX5_threeAreTrue_38 : decode cX5_threeAreTrue 38 = .ok (.iload 4, 2) := by decide +kernel
theorem dX5_threeAreTrue_40 : decode cX5_threeAreTrue 40 = .ok (.if_icmp .eq 7, 3) := by decide +kernel
theorem dX5_threeAreTrue_43 : decode cX5_threeAreTrue 43 = .ok (.iconst 1, 1) := by decide +kernel
theorem dX5_threeAreTrue_44 : decode cX5_threeAreTrue 44 = .ok (.goto 4, 3) := by decide +kernel
theorem dX5_threeAreTrue_47 : decode cX5_threeAreTrue 47 = .ok (.iconst 0, 1) := by decide +kernel
theorem dX5_threeAreTrue_48 : decode cX5_threeAreTrue 48 = .ok (.istore 5, 2) := by decide +kernel
theorem dX5_threeAreTrue_50 : decode cX5_threeAreTrue 50 = .ok (.iload 5, 2) := by decide +kernel
theorem dX5_threeAreTrue_52 : decode cX5_threeAreTrue 52 = .ok (.ifCond .eq 22, 3) := by decide +kernel
theorem dX5_threeAreTrue_55 : decode cX5_threeAreTrue 55 = .ok (.aload_n 0, 1) := by decide +kernel
theorem dX5_threeAreTrue_56 : decode cX5_threeAreTrue 56 = .ok (.iload_n 2, 1) := by decide +kernel
theorem dX5_threeAreTrue_57 : decode cX5_threeAreTrue 57 = .ok (.aaload, 1) := by decide +kernel
theorem dX5_threeAreTrue_58 : decode cX5_threeAreTrue 58 = .ok (.aload_n 0, 1) := by decide +kernel
theorem dX5_threeAreTrue_59 : decode cX5_threeAreTrue 59 = .ok (.iload_n 3, 1) := by decide +kernel
theorem dX5_threeAreTrue_60 : decode cX5_threeAreTrue 60 = .ok (.aaload, 1) := by decide +kernel
theorem dX5_threeAreTrue_61 : decode cX5_threeAreTrue 61 = .ok (.aload_n 0, 1) := by decide +kernel
theorem dX5_threeAreTrue_62 : decode cX5_threeAreTrue 62 = .ok (.iload 4, 2) := by decide +kernel
theorem dX5_threeAreTrue_64 : decode cX5_threeAreTrue 64 = .ok (.aaload, 1) := by decide +kernel
theorem dX5_threeAreTrue_65 : decode cX5_threeAreTrue 65 = .ok (.iload_n 1, 1) := by decide +kernel
theorem dX5_threeAreTrue_66 : decode cX5_threeAreTrue 66 = .ok (.invokestatic 63, 3) := by decide +kernel
theorem dX5_threeAreTrue_69 : decode cX5_threeAreTrue 69 = .ok (.ifCond .ne 5, 3) := by decide +kernel
theorem dX5_threeAreTrue_72 : decode cX5_threeAreTrue 72 = .ok (.iconst 0, 1) := by decide +kernel
theorem dX5_threeAreTrue_73 : decode cX5_threeAreTrue 73 = .ok (.ireturn, 1) := by decide +kernel
theorem dX5_threeAreTrue_74 : decode cX5_threeAreTrue 74 = .ok (.iinc 4 1, 3) := by decide +kernel
theorem dX5_threeAreTrue_77 : decode cX5_threeAreTrue 77 = .ok (.goto (-58), 3) := by decide +kernel
theorem dX5_threeAreTrue_80 : decode cX5_threeAreTrue 80 = .ok (.iinc 3 1, 3) := by decide +kernel
theorem dX5_threeAreTrue_83 : decode cX5_threeAreTrue 83 = .ok (.goto (-73), 3) := by decide +kernel
theorem dX5_threeAreTrue_86 : decode cX5_threeAreTrue 86 = .ok (.iinc 2 1, 3) := by decide +kernel
theorem dX5_threeAreTrue_89 : decode cX5_threeAreTrue 89 = .ok (.goto (-87), 3) := by decide +kernel
theorem dX5_threeAreTrue_92 : decode cX5_threeAreTrue 92 = .ok (.iconst 1, 1) := by decide +kernel
theorem dX5_threeAreTrue_93 : decode cX5_threeAreTrue 93 = .ok (.ireturn, 1) := by decide +kernel
theorem dX5_chainIsTrue_0 : decode cX5_chainIsTrue 0 = .ok (.aload_n 0, 1) := by decide +kernel
theorem dX5_chainIsTrue_1 : decode cX5_chainIsTrue 1 = .ok (.aload_n 1, 1) := by decide +kernel
theorem dX5_chainIsTrue_2 : decode cX5_chainIsTrue 2 = .ok (.iload_n 3, 1) := by decide +kernel
theorem dX5_chainIsTrue_3 : decode cX5_chainIsTrue 3 = .ok (.invokestatic 52, 3) := by decide +kernel
theorem dX5_chainIsTrue_6 : decode cX5_chainIsTrue 6 = .ok (.istore 4, 2) := by decide +kernel
theorem dX5_chainIsTrue_8 : decode cX5_chainIsTrue 8 = .ok (.aload_n 1, 1) := by decide +kernel
theorem dX5_chainIsTrue_9 : decode cX5_chainIsTrue 9 = .ok (.aload_n 2, 1) := by decide +kernel
theorem dX5_chainIsTrue_10 : decode cX5_chainIsTrue 10 = .ok (.iload_n 3, 1) := by decide +kernel
theorem dX5_chainIsTrue_11 : decode cX5_chainIsTrue 11 = .ok (.invokestatic 52, 3) := by decide +kernel
theorem dX5_chainIsTrue_14 : decode cX5_chainIsTrue 14 = .ok (.istore 5, 2) := by decide +kernel
theorem dX5_chainIsTrue_16 : decode cX5_chainIsTrue 16 = .ok (.iload 4, 2) := by decide +kernel
theorem dX5_chainIsTrue_18 : decode cX5_chainIsTrue 18 = .ok (.ifCond .gt 8, 3) := by decide +kernel
theorem dX5_chainIsTrue_21 : decode cX5_chainIsTrue 21 = .ok (.iload 5, 2) := by decide +kernel
theorem dX5_chainIsTrue_23 : decode cX5_chainIsTrue 23 = .ok (.ifCond .le 5, 3) := by decide +kernel
theorem dX5_chainIsTrue_26 : decode cX5_chainIsTrue 26 = .ok (.iconst 1, 1) := by decide +kernel
theorem dX5_chainIsTrue_27 : decode cX5_chainIsTrue 27 = .ok (.ireturn, 1) := by decide +kernel
theorem dX5_chainIsTrue_28 : decode cX5_chainIsTrue 28 = .ok (.iload 4, 2) := by decide +kernel
theorem dX5_chainIsTrue_30 : decode cX5_chainIsTrue 30 = .ok (.ifCond .eq 17, 3) := by decide +kernel
theorem dX5_chainIsTrue_33 : decode cX5_chainIsTrue 33 = .ok (.iload 5, 2) := by decide +kernel
theorem dX5_chainIsTrue_35 : decode cX5_chainIsTrue 35 = .ok (.ifCond .eq 12, 3) := by decide +kernel
theorem dX5_chainIsTrue_38 : decode cX5_chainIsTrue 38 = .ok (.aload_n 0, 1) := by decide +kernel
theorem dX5_chainIsTrue_39 : decode cX5_chainIsTrue 39 = .ok (.aload_n 2, 1) := by decide +kernel
theorem dX5_chainIsTrue_40 : decode cX5_chainIsTrue 40 = .ok (.iload_n 3, 1) := by decide +kernel
theorem dX5_chainIsTrue_41 : decode cX5_chainIsTrue 41 = .ok (.invokestatic 52, 3) := by decide +kernel
theorem dX5_chainIsTrue_44 : decode cX5_chainIsTrue 44 = .ok (.ifCond .ge 7, 3) := by decide +kernel
theorem dX5_chainIsTrue_47 : decode cX5_chainIsTrue 47 = .ok (.iconst 1, 1) := by decide +kernel
theorem dX5_chainIsTrue_48 : decode cX5_chainIsTrue 48 = .ok (.goto 4, 3) := by decide +kernel
theorem dX5_chainIsTrue_51 : decode cX5_chainIsTrue 51 = .ok (.iconst 0, 1) := by decide +kernel
theorem dX5_chainIsTrue_52 : decode cX5_chainIsTrue 52 = .ok (.istore 6, 2) := by decide +kernel
theorem dX5_chainIsTrue_54 : decode cX5_chainIsTrue 54 = .ok (.iload 6, 2) := by decide +kernel
theorem dX5_chainIsTrue_56 : decode cX5_chainIsTrue 56 = .ok (.ifCond .eq 28, 3) := by decide +kernel
theorem dX5_chainIsTrue_59 : decode cX5_chainIsTrue 59 = .ok (.aload_n 0, 1) := by decide +kernel
theorem dX5_chainIsTrue_60 : decode cX5_chainIsTrue 60 = .ok (.aload_n 2, 1) := by decide +kernel
theorem dX5_chainIsTrue_61 : decode cX5_chainIsTrue 61 = .ok (.invokestatic 56, 3) := by decide +kernel
theorem dX5_chainIsTrue_64 : decode cX5_chainIsTrue 64 = .ok (.aload_n 0, 1) := by decide +kernel
theorem dX5_chainIsTrue_65 : decode cX5_chainIsTrue 65 = .ok (.aload_n 1, 1) := by decide +kernel
theorem dX5_chainIsTrue_66 : decode cX5_chainIsTrue 66 = .ok (.invokestatic 56, 3) := by decide +kernel
theorem dX5_chainIsTrue_69 : decode cX5_chainIsTrue 69 = .ok (.aload_n 1, 1) := by decide +kernel
theorem dX5_chainIsTrue_70 : decode cX5_chainIsTrue 70 = .ok (.aload_n 2, 1) := by decide +kernel
theorem dX5_chainIsTrue_71 : decode cX5_chainIsTrue 71 = .ok (.invokestatic 56, 3) := by decide +kernel
theorem dX5_chainIsTrue_74 : decode cX5_chainIsTrue 74 = .ok (.invokestatic 67, 3) := by decide +kernel
theorem dX5_chainIsTrue_77 : decode cX5_chainIsTrue 77 = .ok (.if_icmp .ne 7, 3) := by decide +kernel
theorem dX5_chainIsTrue_80 : decode cX5_chainIsTrue 80 = .ok (.iconst 1, 1) := by decide +kernel
theorem dX5_chainIsTrue_81 : decode cX5_chainIsTrue 81 = .ok (.goto 4, 3) := by decide +kernel
theorem dX5_chainIsTrue_84 : decode cX5_chainIsTrue 84 = .ok (.iconst 0, 1) := by decide +kernel
theorem dX5_chainIsTrue_85 : decode cX5_chainIsTrue 85 = .ok (.ireturn, 1) := by decide +kernel
theorem dX6_init_0 : decode cX6_init 0 = .ok (.aload_n 0, 1) := by decide +kernel
theorem dX6_init_1 : decode cX6_init 1 = .ok (.invokespecial 1, 3) := by decide +kernel
theorem dX6_init_4 : decode cX6_init 4 = .ok (.aload_n 0, 1) := by decide +kernel
theorem dX6_init_5 : decode cX6_init 5 = .ok (.bipush 16, 2) := by decide +kernel
theorem dX6_init_7 : decode cX6_init 7 = .ok (.anewarray 9, 3) := by decide +kernel
theorem dX6_init_10 : decode cX6_init 10 = .ok (.putfield 11, 3) := by decide +kernel
theorem dX6_init_13 : decode cX6_init 13 = .ok (.aload_n 0, 1) := by decide +kernel
theorem dX6_init_14 : decode cX6_init 14 = .ok (.bipush 12, 2) := by decide +kernel
theorem dX6_init_16 : decode cX6_init 16 = .ok (.anewarray 15, 3) := by decide +kernel
theorem dX6_init_19 : decode cX6_init 19 = .ok (.putfield 17, 3) := by decide +kernel
theorem dX6_init_22 : decode cX6_init 22 = .ok (.aload_n 0, 1) := by decide +kernel
theorem dX6_init_23 : decode cX6_init 23 = .ok (.bipush 12, 2) := by decide +kernel
theorem dX6_init_25 : decode cX6_init 25 = .ok (.newarray .int, 2) := by decide +kernel
theorem dX6_init_27 : decode cX6_init 27 = .ok (.putfield 21, 3) := by decide +kernel
theorem dX6_init_30 : decode cX6_init 30 = .ok (.aload_n 0, 1) := by decide +kernel
theorem dX6_init_31 : decode cX6_init 31 = .ok (.new 25, 3) := by decide +kernel
theorem dX6_init_34 : decode cX6_init 34 = .ok (.dup, 1) := by decide +kernel
theorem dX6_init_35 : decode cX6_init 35 = .ok (.invokespecial 27, 3) := by decide +kernel
theorem dX6_init_38 : decode cX6_init 38 = .ok (.putfield 28, 3) := by decide +kernel
theorem dX6_init_41 : decode cX6_init 41 = .ok (.iconst 0, 1) := by decide +kernel
theorem dX6_init_42 : decode cX6_init 42 = .ok (.istore_n 1, 1) := by decide +kernel
theorem dX6_init_43 : decode cX6_init 43 = .ok (.iload_n 1, 1) := by decide +kernel
theorem dX6_init_44 : decode cX6_init 44 = .ok (.aload_n 0, 1) := by decide +kernel
theorem dX6_init_45 : decode cX6_init 45 = .ok (.getfield 11, 3) := by decide +kernel
theorem dX6_init_48 : decode cX6_init 48 = .ok (.arraylength, 1) := by decide +kernel
theorem dX6_init_49 : decode cX6_init 49 = .ok (.if_icmp .ge 22, 3) := by decide +kernel
theorem dX6_init_52 : decode cX6_init 52 = .ok (.aload_n 0, 1) := by decide +kernel
theorem dX6_init_53 : decode cX6_init 53 = .ok (.getfield 11, 3) := by decide +kernel
theorem dX6_init_56 : decode cX6_init 56 = .ok (.iload_n 1, 1) := by decide +kernel
theorem dX6_init_57 : decode cX6_init 57 = .ok (.new 9, 3) := by decide +kernel
theorem dX6_init_60 : decode cX6_init 60 = .ok (.dup, 1) := by decide +kernel
theorem dX6_init_61 : decode cX6_init 61 = .ok (.invokespecial 32, 3) := by decide +kernel
theorem dX6_init_64 : decode cX6_init 64 = .ok (.aastore, 1) := by decide +kernel
theorem dX6_init_65 : decode cX6_init 65 = .ok (.iinc 1 1, 3) := by decide +kernel
theorem dX6_init_68 : decode cX6_init 68 = .ok (.goto (-25), 3) := by decide +kernel
theorem dX6_init_71 : decode cX6_init 71 = .ok (.iconst 0, 1) := by decide +kernel
theorem dX6_init_72 : decode cX6_init 72 = .ok (.istore_n 1, 1) := by decide +kernel
theorem dX6_init_73 : decode cX6_init 73 = .ok (.iload_n 1, 1) := by decide +kernel
theorem dX6_init_74 : decode cX6_init 74 = .ok (.aload_n 0, 1) := by decide +kernel
theorem dX6_init_75 : decode cX6_init 75 = .ok (.getfield 17, 3) := by decide +kernel
theorem dX6_init_78 : decode cX6_init 78 = .ok (.arraylength, 1) := by decide +kernel
theorem dX6_init_79 : decode cX6_init 79 = .ok (.if_icmp .ge 22, 3) := by decide +kernel
theorem dX6_init_82 : decode cX6_init 82 = .ok (.aload_n 0, 1) := by decide +kernel
theorem dX6_init_83 : decode cX6_init 83 = .ok (.getfield 17, 3) := by decide +kernel
theorem dX6_init_86 : decode cX6_init 86 = .ok (.iload_n 1, 1) := by decide +kernel
theorem dX6_init_87 : decode cX6_init 87 = .ok (.new 15, 3) := by decide +kernel
theorem dX6_init_90 : decode cX6_init 90 = .ok (.dup, 1) := by decide +kernel
theorem dX6_init_91 : decode cX6_init 91 = .ok (.invokespecial 33, 3) := by decide +kernel
theorem dX6_init_94 : decode cX6_init 94 = .ok (.aastore, 1) := by decide +kernel
theorem dX6_init_95 : decode cX6_init 95 = .ok (.iinc 1 1, 3) := by decide +kernel
theorem dX6_init_98 : decode cX6_init 98 = .ok (.goto (-25), 3) := by decide +kernel
theorem dX6_init_101 : decode cX6_init 101 = .ok (.return_, 1) := by decide +kernel
theorem dX6_append_0 : decode cX6_append 0 = .ok (.iload_n 1, 1) := by decide +kernel
theorem dX6_append_1 : decode cX6_append 1 = .ok (.invokestatic 34, 3) := by decide +kernel
theorem dX6_append_4 : decode cX6_append 4 = .ok (.istore 5, 2) := by decide +kernel
theorem dX6_append_6 : decode cX6_append 6 = .ok (.iload 5, 2) := by decide +kernel
theorem dX6_append_8 : decode cX6_append 8 = .ok (.lload_n 3, 1) := by decide +kernel
theorem dX6_append_9 : decode cX6_append 9 = .ok (.invokestatic 38, 3) := by decide +kernel
theorem dX6_append_12 : decode cX6_append 12 = .ok (.aload_n 0, 1) := by decide +kernel
theorem dX6_append_13 : decode cX6_append 13 = .ok (.iload 5, 2) := by decide +kernel
theorem dX6_append_15 : decode cX6_append 15 = .ok (.iload_n 2, 1) := by decide +kernel
theorem dX6_append_16 : decode cX6_append 16 = .ok (.invokevirtual 42, 3) := by decide +kernel
theorem dX6_append_19 : decode cX6_append 19 = .ok (.astore 6, 2) := by decide +kernel
theorem dX6_append_21 : decode cX6_append 21 = .ok (.aload 6, 2) := by decide +kernel
theorem dX6_append_23 : decode cX6_append 23 = .ok (.getfield 46, 3) := by decide +kernel
theorem dX6_append_26 : decode cX6_append 26 = .ok (.bipush 32, 2) := by decide +kernel
theorem dX6_append_28 : decode cX6_append 28 = .ok (.if_icmp .lt 13, 3) := by decide +kernel
theorem dX6_append_31 : decode cX6_append 31 = .ok (.new 50, 3) := by decide +kernel
theorem dX6_append_34 : decode cX6_append 34 = .ok (.dup, 1) := by decide +kernel
theorem dX6_append_35 : decode cX6_append 35 = .ok (.ldc 52, 2) := by decide +kernel
theorem dX6_append_37 : decode cX6_append 37 = .ok (.invokespecial 54, 3) := by decide +kernel
theorem dX6_append_40 : decode cX6_append 40 = .ok (.athrow, 1) := by decide +kernel
theorem dX6_append_41 : decode cX6_append 41 = .ok (.aload 6, 2) := by decide +kernel
theorem dX6_append_43 : decode cX6_append 43 = .ok (.getfield 57, 3) := by decide +kernel
theorem dX6_append_46 : decode cX6_append 46 = .ok (.aload 6, 2) := by decide +kernel
theorem dX6_append_48 : decode cX6_append 48 = .ok (.getfield 46, 3) := by decide +kernel
theorem dX6_append_51 : decode cX6_append 51 = .ok (.lload_n 3, 1) := by decide +kernel
theorem dX6_append_52 : decode cX6_append 52 = .ok (.lastore, 1) := by decide +kernel
theorem dX6_append_53 : decode cX6_append 53 = .ok (.aload 6, 2) := by decide +kernel
theorem dX6_append_55 : decode cX6_append 55 = .ok (.dup, 1) := by decide +kernel
theorem dX6_append_56 : decode cX6_append 56 = .ok (.getfield 46, 3) := by decide +kernel
theorem dX6_append_59 : decode cX6_append 59 = .ok (.iconst 1, 1) := by decide +kernel
theorem dX6_append_60 : decode cX6_append 60 = .ok (.iadd, 1) := by decide +kernel
theorem dX6_append_61 : decode cX6_append 61 = .ok (.putfield 46, 3) := by decide +kernel
theorem dX6_append_64 : decode cX6_append 64 = .ok (.aload 6, 2) := by decide +kernel
theorem dX6_append_66 : decode cX6_append 66 = .ok (.getfield 46, 3) := by decide +kernel
theorem dX6_append_69 : decode cX6_append 69 = .ok (.ireturn, 1) := by decide +kernel
theorem dX6_set_0 : decode cX6_set 0 = .ok (.iload_n 1, 1) := by decide +kernel
theorem dX6_set_1 : decode cX6_set 1 = .ok (.invokestatic 34, 3) := by decide +kernel
theorem dX6_set_4 : decode cX6_set 4 = .ok (.istore 6, 2) := by decide +kernel
theorem dX6_set_6 : decode cX6_set 6 = .ok (.iload 6, 2) := by decide +kernel
theorem dX6_set_8 : decode cX6_set 8 = .ok (.lload 4, 2) := by decide +kernel
theorem dX6_set_10 : decode cX6_set 10 = .ok (.invokestatic 38, 3) := by decide +kernel
theorem dX6_set_13 : decode cX6_set 13 = .ok (.aload_n 0, 1) := by decide +kernel
theorem dX6_set_14 : decode cX6_set 14 = .ok (.iload 6, 2) := by decide +kernel
theorem dX6_set_16 : decode cX6_set 16 = .ok (.iload_n 2, 1) := by decide +kernel
theorem dX6_set_17 : decode cX6_set 17 = .ok (.invokevirtual 42, 3) := by decide +kernel
theorem dX6_set_20 : decode cX6_set 20 = .ok (.astore 7, 2) := by decide +kernel
theorem dX6_set_22 : decode cX6_set 22 = .ok (.iload_n 3, 1) := by decide +kernel
theorem dX6_set_23 : decode cX6_set 23 = .ok (.aload 7, 2) := by decide +kernel
theorem dX6_set_25 : decode cX6_set 25 = .ok (.getfield 46, 3) := by decide +kernel
theorem dX6_set_28 : decode cX6_set 28 = .ok (.invokestatic 61, 3) := by decide +kernel
theorem dX6_set_31 : decode cX6_set 31 = .ok (.aload 7, 2) := by decide +kernel
theorem dX6_set_33 : decode cX6_set 33 = .ok (.getfield 57, 3) := by decide +kernel
theorem dX6_set_36 : decode cX6_set 36 = .ok (.iload_n 3, 1) := by decide +kernel
theorem dX6_set_37 : decode cX6_set 37 = .ok (.laload, 1) := by decide +kernel
theorem dX6_set_38 : decode cX6_set 38 = .ok (.lstore 8, 2) := by decide +kernel
theorem dX6_set_40 : decode cX6_set 40 = .ok (.aload 7, 2) := by decide +kernel
theorem dX6_set_42 : decode cX6_set 42 = .ok (.getfield 57, 3) := by decide +kernel
theorem dX6_set_45 : decode cX6_set 45 = .ok (.iload_n 3, 1) := by decide +kernel
theorem dX6_set_46 : decode cX6_set 46 = .ok (.lload 4, 2) := by decide +kernel
theorem dX6_set_48 : decode cX6_set 48 = .ok (.lastore, 1) := by decide +kernel
theorem dX6_set_49 : decode cX6_set 49 = .ok (.lload 8, 2) := by decide +kernel
theorem dX6_set_51 : decode cX6_set 51 = .ok (.lreturn, 1) := by decide +kernel
theorem dX6_number_0 : decode cX6_number 0 = .ok (.aload_n 0, 1) := by decide +kernel
theorem dX6_number_1 : decode cX6_number 1 = .ok (.iload_n 1, 1) := by decide +kernel
theorem dX6_number_2 : decode cX6_number 2 = .ok (.invokestatic 34, 3) := by decide +kernel
theorem dX6_number_5 : decode cX6_number 5 = .ok (.iload_n 2, 1) := by decide +kernel
theorem dX6_number_6 : decode cX6_number 6 = .ok (.invokevirtual 42, 3) := by decide +kernel
theorem dX6_number_9 : decode cX6_number 9 = .ok (.astore 4, 2) := by decide +kernel
theorem dX6_number_11 : decode cX6_number 11 = .ok (.iload_n 3, 1) := by decide +kernel
theorem dX6_number_12 : decode cX6_number 12 = .ok (.aload 4, 2) := by decide +kernel
theorem dX6_number_14 : decode cX6_number 14 = .ok (.getfield 46, 3) := by decide +kernel
theorem dX6_number_17 : decode cX6_number 17 = .ok (.invokestatic 61, 3) := by decide +kernel
theorem dX6_number_20 : decode cX6_number 20 = .ok (.aload 4, 2) := by decide +kernel
theorem dX6_number_22 : decode cX6_number 22 = .ok (.getfield 57, 3) := by decide +kernel
theorem dX6_number_25 : decode cX6_number 25 = .ok (.iload_n 3, 1) := by decide +kernel
theorem dX6_number_26 : decode cX6_number 26 = .ok (.laload, 1) := by decide +kernel
theorem dX6_number_27 : decode cX6_number 27 = .ok (.lreturn, 1) := by decide +kernel
theorem dX6_length_0 : decode cX6_length 0 = .ok (.aload_n 0, 1) := by decide +kernel
theorem dX6_length_1 : decode cX6_length 1 = .ok (.iload_n 1, 1) := by decide +kernel
theorem dX6_length_2 : decode cX6_length 2 = .ok (.invokestatic 34, 3) := by decide +kernel
theorem dX6_length_5 : decode cX6_length 5 = .ok (.iload_n 2, 1) := by decide +kernel
theorem dX6_length_6 : decode cX6_length 6 = .ok (.invokevirtual 42, 3) := by decide +kernel
theorem dX6_length_9 : decode cX6_length 9 = .ok (.getfield 46, 3) := by decide +kernel
theorem dX6_length_12 : decode cX6_length 12 = .ok (.ireturn, 1) := by decide +kernel
theorem dX6_clear_0 : decode cX6_clear 0 = .ok (.aload_n 0, 1) := by decide +kernel
theorem dX6_clear_1 : decode cX6_clear 1 = .ok (.iload_n 1, 1) := by decide +kernel
theorem dX6_clear_2 : decode cX6_clear 2 = .ok (.invokestatic 34, 3) := by decide +kernel
theorem dX6_clear_5 : decode cX6_clear 5 = .ok (.iload_n 2, 1) := by decide +kernel
theorem dX6_clear_6 : decode cX6_clear 6 = .ok (.invokevirtual 42, 3) := by decide +kernel
theorem dX6_clear_9 : decode cX6_clear 9 = .ok (.astore_n 3, 1) := by decide +kernel
theorem dX6_clear_10 : decode cX6_clear 10 = .ok (.aload_n 3, 1) := by decide +kernel
theorem dX6_clear_11 : decode cX6_clear 11 = .ok (.getfield 46, 3) := by decide +kernel
theorem dX6_clear_14 : decode cX6_clear 14 = .ok (.istore 4, 2) := by decide +kernel
theorem dX6_clear_16 : decode cX6_clear 16 = .ok (.aload_n 3, 1) := by decide +kernel
theorem dX6_clear_17 : decode cX6_clear 17 = .ok (.iconst 0, 1) := by decide +kernel
theorem dX6_clear_18 : decode cX6_clear 18 = .ok (.putfield 46, 3) := by decide +kernel
theorem dX6_clear_21 : decode cX6_clear 21 = .ok (.iload 4, 2) := by decide +kernel
theorem dX6_clear_23 : decode cX6_clear 23 = .ok (.ireturn, 1) := by decide +kernel
theorem dX6_repeat_0 : decode cX6_repeat 0 = .ok (.iload_n 1, 1) := by decide +kernel
theorem dX6_repeat_1 : decode cX6_repeat 1 = .ok (.invokestatic 34, 3) := by decide +kernel
theorem dX6_repeat_4 : decode cX6_repeat 4 = .ok (.istore 4, 2) := by decide +kernel
theorem dX6_repeat_6 : decode cX6_repeat 6 = .ok (.iload_n 3, 1) := by decide +kernel
theorem dX6_repeat_7 : decode cX6_repeat 7 = .ok (.iconst 1, 1) := by decide +kernel
theorem dX6_repeat_8 : decode cX6_repeat 8 = .ok (.if_icmp .lt 9, 3) := by decide +kernel
theorem dX6_repeat_11 : decode cX6_repeat 11 = .ok (.iload_n 3, 1) := by decide +kernel
theorem dX6_repeat_12 : decode cX6_repeat 12 = .ok (.bipush 8, 2) := by decide +kernel
theorem dX6_repeat_14 : decode cX6_repeat 14 = .ok (.if_icmp .le 13, 3) := by decide +kernel
theorem dX6_repeat_17 : decode cX6_repeat 17 = .ok (.new 65, 3) := by decide +kernel
theorem dX6_repeat_20 : decode cX6_repeat 20 = .ok (.dup, 1) := by decide +kernel
theorem dX6_repeat_21 : decode cX6_repeat 21 = .ok (.ldc 67, 2) := by decide +kernel
theorem dX6_repeat_23 : decode cX6_repeat 23 = .ok (.invokespecial 69, 3) := by decide +kernel
theorem dX6_repeat_26 : decode cX6_repeat 26 = .ok (.athrow, 1) := by decide +kernel
theorem dX6_repeat_27 : decode cX6_repeat 27 = .ok (.aload_n 0, 1) := by decide +kernel
theorem dX6_repeat_28 : decode cX6_repeat 28 = .ok (.iload 4, 2) := by decide +kernel
theorem dX6_repeat_30 : decode cX6_repeat 30 = .ok (.iload_n 2, 1) := by decide +kernel
theorem dX6_repeat_31 : decode cX6_repeat 31 = .ok (.invokevirtual 42, 3) := by decide +kernel
theorem dX6_repeat_34 : decode cX6_repeat 34 = .ok (.astore 5, 2) := by decide +kernel
theorem dX6_repeat_36 : decode cX6_repeat 36 = .ok (.aload 5, 2) := by decide +kernel
theorem dX6_repeat_38 : decode cX6_repeat 38 = .ok (.getfield 46, 3) := by decide +kernel
theorem dX6_repeat_41 : decode cX6_repeat 41 = .ok (.istore 6, 2) := by decide +kernel
theorem dX6_repeat_43 : decode cX6_repeat 43 = .ok (.iload 6, 2) := by decide +kernel
theorem dX6_repeat_45 : decode cX6_repeat 45 = .ok (.iload_n 3, 1) := by decide +kernel
theorem dX6_repeat_46 : decode cX6_repeat 46 = .ok (.imul, 1) := by decide +kernel
theorem dX6_repeat_47 : decode cX6_repeat 47 = .ok (.bipush 32, 2) := by decide +kernel
theorem dX6_repeat_49 : decode cX6_repeat 49 = .ok (.if_icmp .le 13, 3) := by decide +kernel
theorem dX6_repeat_52 : decode cX6_repeat 52 = .ok (.new 50, 3) := by decide +kernel
theorem dX6_repeat_55 : decode cX6_repeat 55 = .ok (.dup, 1) := by decide +kernel
theorem dX6_repeat_56 : decode cX6_repeat 56 = .ok (.ldc 70, 2) := by decide +kernel
theorem dX6_repeat_58 : decode cX6_repeat 58 = .ok (.invokespecial 54, 3) := by decide +kernel
theorem dX6_repeat_61 : decode cX6_repeat 61 = .ok (.athrow, 1) := by decide +kernel
theorem dX6_repeat_62 : decode cX6_repeat 62 = .ok (.aload 5, 2) := by decide +kernel
theorem dX6_repeat_64 : decode cX6_repeat 64 = .ok (.iload 6, 2) := by decide +kernel
theorem dX6_repeat_66 : decode cX6_repeat 66 = .ok (.iload_n 3, 1) := by decide +kernel
theorem dX6_repeat_67 : decode cX6_repeat 67 = .ok (.imul, 1) := by decide +kernel
theorem dX6_repeat_68 : decode cX6_repeat 68 = .ok (.putfield 46, 3) := by decide +kernel
theorem dX6_repeat_71 : decode cX6_repeat 71 = .ok (.iload 6, 2) := by decide +kernel
theorem dX6_repeat_73 : decode cX6_repeat 73 = .ok (.istore 7, 2) := by decide +kernel
theorem dX6_repeat_75 : decode cX6_repeat 75 = .ok (.iload 7, 2) := by decide +kernel
theorem dX6_repeat_77 : decode cX6_repeat 77 = .ok (.aload 5, 2) := by decide +kernel
theorem dX6_repeat_79 : decode cX6_repeat 79 = .ok (.getfield 46, 3) := by decide +kernel
theorem dX6_repeat_82 : decode cX6_repeat 82 = .ok (.if_icmp .ge 28, 3) := by decide +kernel
theorem dX6_repeat_85 : decode cX6_repeat 85 = .ok (.aload 5, 2) := by decide +kernel
theorem dX6_repeat_87 : decode cX6_repeat 87 = .ok (.getfield 57, 3) := by decide +kernel
theorem dX6_repeat_90 : decode cX6_repeat 90 = .ok (.iload 7, 2) := by decide +kernel
theorem dX6_repeat_92 : decode cX6_repeat 92 = .ok (.aload 5, 2) := by decide +kernel
theorem dX6_repeat_94 : decode cX6_repeat 94 = .ok (.getfield 57, 3) := by decide +kernel
theorem dX6_repeat_97 : decode cX6_repeat 97 = .ok (.iload 7, 2) := by decide +kernel
theorem dX6_repeat_99 : decode cX6_repeat 99 = .ok (.iload 6, 2) := by decide +kernel
theorem dX6_repeat_101 : decode cX6_repeat 101 = .ok (.isub, 1) := by decide +kernel
theorem dX6_repeat_102 : decode cX6_repeat 102 = .ok (.laload, 1) := by decide +kernel
theorem dX6_repeat_103 : decode cX6_repeat 103 = .ok (.lastore, 1) := by decide +kernel
theorem dX6_repeat_104 : decode cX6_repeat 104 = .ok (.iinc 7 1, 3) := by decide +kernel
theorem dX6_repeat_107 : decode cX6_repeat 107 = .ok (.goto (-32), 3) := by decide +kernel
theorem dX6_repeat_110 : decode cX6_repeat 110 = .ok (.aload 5, 2) := by decide +kernel
theorem dX6_repeat_112 : decode cX6_repeat 112 = .ok (.getfield 46, 3) := by decide +kernel
theorem dX6_repeat_115 : decode cX6_repeat 115 = .ok (.ireturn, 1) := by decide +kernel
theorem dX6_reverse_0 : decode cX6_reverse 0 = .ok (.aload_n 0, 1) := by decide +kernel
theorem dX6_reverse_1 : decode cX6_reverse 1 = .ok (.iload_n 1, 1) := by decide +kernel
theorem dX6_reverse_2 : decode cX6_reverse 2 = .ok (.invokestatic 34, 3) := by decide +kernel
theorem dX6_reverse_5 : decode cX6_reverse 5 = .ok (.iload_n 2, 1) := by decide +kernel
theorem dX6_reverse_6 : decode cX6_reverse 6 = .ok (.invokevirtual 42, 3) := by decide +kernel
theorem dX6_reverse_9 : decode cX6_reverse 9 = .ok (.astore_n 3, 1) := by decide +kernel
theorem dX6_reverse_10 : decode cX6_reverse 10 = .ok (.aload_n 3, 1) := by decide +kernel
theorem dX6_reverse_11 : decode cX6_reverse 11 = .ok (.getfield 46, 3) := by decide +kernel
theorem dX6_reverse_14 : decode cX6_reverse 14 = .ok (.iconst 1, 1) := by decide +kernel
theorem dX6_reverse_15 : decode cX6_reverse 15 = .ok (.isub, 1) := by decide +kernel
theorem dX6_reverse_16 : decode cX6_reverse 16 = .ok (.istore 4, 2) := by decide +kernel
theorem dX6_reverse_18 : decode cX6_reverse 18 = .ok (.iconst 0, 1) := by decide +kernel
theorem dX6_reverse_19 : decode cX6_reverse 19 = .ok (.istore 5, 2) := by decide +kernel
theorem dX6_reverse_21 : decode cX6_reverse 21 = .ok (.iload 5, 2) := by decide +kernel
theorem dX6_reverse_23 : decode cX6_reverse 23 = .ok (.iload 4, 2) := by decide +kernel
theorem dX6_reverse_25 : decode cX6_reverse 25 = .ok (.if_icmp .ge 44, 3) := by decide +kernel
theorem dX6_reverse_28 : decode cX6_reverse 28 = .ok (.aload_n 3, 1) := by decide +kernel
theorem dX6_reverse_29 : decode cX6_reverse 29 = .ok (.getfield 57, 3) := by decide +kernel
theorem dX6_reverse_32 : decode cX6_reverse 32 = .ok (.iload 5, 2) := by decide +kernel
theorem dX6_reverse_34 : decode cX6_reverse 34 = .ok (.laload, 1) := by decide +kernel
theorem dX6_reverse_35 : decode cX6_reverse 35 = .ok (.lstore 6, 2) := by decide +kernel
theorem dX6_reverse_37 : decode cX6_reverse 37 = .ok (.aload_n 3, 1) := by decide +kernel
theorem dX6_reverse_38 : decode cX6_reverse 38 = .ok (.getfield 57, 3) := by decide +kernel
theorem dX6_reverse_41 : decode cX6_reverse 41 = .ok (.iload 5, 2) := by decide +kernel
theorem dX6_reverse_43 : decode cX6_reverse 43 = .ok (.aload_n 3, 1) := by decide +kernel
theorem dX6_reverse_44 : decode cX6_reverse 44 = .ok (.getfield 57, 3) := by decide +kernel
theorem dX6_reverse_47 : decode cX6_reverse 47 = .ok (.iload 4, 2) := by decide +kernel
theorem dX6_reverse_49 : decode cX6_reverse 49 = .ok (.laload, 1) := by decide +kernel
theorem dX6_reverse_50 : decode cX6_reverse 50 = .ok (.lastore, 1) := by decide +kernel
theorem dX6_reverse_51 : decode cX6_reverse 51 = .ok (.aload_n 3, 1) := by decide +kernel
theorem dX6_reverse_52 : decode cX6_reverse 52 = .ok (.getfield 57, 3) := by decide +kernel
theorem dX6_reverse_55 : decode cX6_reverse 55 = .ok (.iload 4, 2) := by decide +kernel
theorem dX6_reverse_57 : decode cX6_reverse 57 = .ok (.lload 6, 2) := by decide +kernel
theorem dX6_reverse_59 : decode cX6_reverse 59 = .ok (.lastore, 1) := by decide +kernel
theorem dX6_reverse_60 : decode cX6_reverse 60 = .ok (.iinc 4 (-1), 3) := by decide +kernel
theorem dX6_reverse_63 : decode cX6_reverse 63 = .ok (.iinc 5 1, 3) := by decide +kernel
theorem dX6_reverse_66 : decode cX6_reverse 66 = .ok (.goto (-45), 3) := by decide +kernel
theorem dX6_reverse_69 : decode cX6_reverse 69 = .ok (.aload_n 3, 1) := by decide +kernel
theorem dX6_reverse_70 : decode cX6_reverse 70 = .ok (.getfield 46, 3) := by decide +kernel
theorem dX6_reverse_73 : decode cX6_reverse 73 = .ok (.ireturn, 1) := by decide +kernel
theorem dX6_cut_0 : decode cX6_cut 0 = .ok (.aload_n 0, 1) := by decide +kernel
theorem dX6_cut_1 : decode cX6_cut 1 = .ok (.iload_n 1, 1) := by decide +kernel
theorem dX6_cut_2 : decode cX6_cut 2 = .ok (.invokestatic 34, 3) := by decide +kernel
theorem dX6_cut_5 : decode cX6_cut 5 = .ok (.iload_n 2, 1) := by decide +kernel
theorem dX6_cut_6 : decode cX6_cut 6 = .ok (.invokevirtual 42, 3) := by decide +kernel
theorem dX6_cut_9 : decode cX6_cut 9 = .ok (.astore 5, 2) := by decide +kernel
theorem dX6_cut_11 : decode cX6_cut 11 = .ok (.iload_n 3, 1) := by decide +kernel
theorem dX6_cut_12 : decode cX6_cut 12 = .ok (.ifCond .lt 19, 3) := by decide +kernel
theorem dX6_cut_15 : decode cX6_cut 15 = .ok (.iload 4, 2) := by decide +kernel
theorem dX6_cut_17 : decode cX6_cut 17 = .ok (.iload_n 3, 1) := by decide +kernel
theorem dX6_cut_18 : decode cX6_cut 18 = .ok (.if_icmp .lt 13, 3) := by decide +kernel
theorem dX6_cut_21 : decode cX6_cut 21 = .ok (.iload 4, 2) := by decide +kernel
theorem dX6_cut_23 : decode cX6_cut 23 = .ok (.aload 5, 2) := by decide +kernel
theorem dX6_cut_25 : decode cX6_cut 25 = .ok (.getfield 46, 3) := by decide +kernel
theorem dX6_cut_28 : decode cX6_cut 28 = .ok (.if_icmp .le 13, 3) := by decide +kernel
theorem dX6_cut_31 : decode cX6_cut 31 = .ok (.new 72, 3) := by decide +kernel
theorem dX6_cut_34 : decode cX6_cut 34 = .ok (.dup, 1) := by decide +kernel
theorem dX6_cut_35 : decode cX6_cut 35 = .ok (.ldc 74, 2) := by decide +kernel
theorem dX6_cut_37 : decode cX6_cut 37 = .ok (.invokespecial 76, 3) := by decide +kernel
theorem dX6_cut_40 : decode cX6_cut 40 = .ok (.athrow, 1) := by decide +kernel
theorem dX6_cut_41 : decode cX6_cut 41 = .ok (.aload 5, 2) := by decide +kernel
theorem dX6_cut_43 : decode cX6_cut 43 = .ok (.iload 4, 2) := by decide +kernel
theorem dX6_cut_45 : decode cX6_cut 45 = .ok (.iload_n 3, 1) := by decide +kernel
theorem dX6_cut_46 : decode cX6_cut 46 = .ok (.isub, 1) := by decide +kernel
theorem dX6_cut_47 : decode cX6_cut 47 = .ok (.putfield 46, 3) := by decide +kernel
theorem dX6_cut_50 : decode cX6_cut 50 = .ok (.iconst 0, 1) := by decide +kernel
theorem dX6_cut_51 : decode cX6_cut 51 = .ok (.istore 6, 2) := by decide +kernel
theorem dX6_cut_53 : decode cX6_cut 53 = .ok (.iload 6, 2) := by decide +kernel
theorem dX6_cut_55 : decode cX6_cut 55 = .ok (.aload 5, 2) := by decide +kernel
theorem dX6_cut_57 : decode cX6_cut 57 = .ok (.getfield 46, 3) := by decide +kernel
theorem dX6_cut_60 : decode cX6_cut 60 = .ok (.if_icmp .ge 27, 3) := by decide +kernel
theorem dX6_cut_63 : decode cX6_cut 63 = .ok (.aload 5, 2) := by decide +kernel
theorem dX6_cut_65 : decode cX6_cut 65 = .ok (.getfield 57, 3) := by decide +kernel
theorem dX6_cut_68 : decode cX6_cut 68 = .ok (.iload 6, 2) := by decide +kernel
theorem dX6_cut_70 : decode cX6_cut 70 = .ok (.aload 5, 2) := by decide +kernel
theorem dX6_cut_72 : decode cX6_cut 72 = .ok (.getfield 57, 3) := by decide +kernel
theorem dX6_cut_75 : decode cX6_cut 75 = .ok (.iload_n 3, 1) := by decide +kernel
theorem dX6_cut_76 : decode cX6_cut 76 = .ok (.iload 6, 2) := by decide +kernel
theorem dX6_cut_78 : decode cX6_cut 78 = .ok (.iadd, 1) := by decide +kernel
theorem dX6_cut_79 : decode cX6_cut 79 = .ok (.laload, 1) := by decide +kernel
theorem dX6_cut_80 : decode cX6_cut 80 = .ok (.lastore, 1) := by decide +kernel
theorem dX6_cut_81 : decode cX6_cut 81 = .ok (.iinc 6 1, 3) := by decide +kernel
theorem dX6_cut_84 : decode cX6_cut 84 = .ok (.goto (-31), 3) := by decide +kernel
theorem dX6_cut_87 : decode cX6_cut 87 = .ok (.aload 5, 2) := by decide +kernel
theorem dX6_cut_89 : decode cX6_cut 89 = .ok (.getfield 46, 3) := by decide +kernel
theorem dX6_cut_92 : decode cX6_cut 92 = .ok (.ireturn, 1) := by decide +kernel
theorem dX6_convert_0 : decode cX6_convert 0 = .ok (.iload_n 1, 1) := by decide +kernel
theorem dX6_convert_1 : decode cX6_convert 1 = .ok (.invokestatic 34, 3) := by decide +kernel
theorem dX6_convert_4 : decode cX6_convert 4 = .ok (.istore 6, 2) := by decide +kernel
theorem dX6_convert_6 : decode cX6_convert 6 = .ok (.iload_n 3, 1) := by decide +kernel
theorem dX6_convert_7 : decode cX6_convert 7 = .ok (.invokestatic 34, 3) := by decide +kernel
theorem dX6_convert_10 : decode cX6_convert 10 = .ok (.istore 7, 2) := by decide +kernel
theorem dX6_convert_12 : decode cX6_convert 12 = .ok (.iload 5, 2) := by decide +kernel
theorem dX6_convert_14 : decode cX6_convert 14 = .ok (.bipush 110, 2) := by decide +kernel
theorem dX6_convert_16 : decode cX6_convert 16 = .ok (.if_icmp .eq 27, 3) := by decide +kernel
theorem dX6_convert_19 : decode cX6_convert 19 = .ok (.iload 5, 2) := by decide +kernel
theorem dX6_convert_21 : decode cX6_convert 21 = .ok (.bipush 117, 2) := by decide +kernel
theorem dX6_convert_23 : decode cX6_convert 23 = .ok (.if_icmp .eq 20, 3) := by decide +kernel
theorem dX6_convert_26 : decode cX6_convert 26 = .ok (.iload 5, 2) := by decide +kernel
theorem dX6_convert_28 : decode cX6_convert 28 = .ok (.bipush 116, 2) := by decide +kernel
theorem dX6_convert_30 : decode cX6_convert 30 = .ok (.if_icmp .eq 13, 3) := by decide +kernel
theorem dX6_convert_33 : decode cX6_convert 33 = .ok (.new 65, 3) := by decide +kernel
theorem dX6_convert_36 : decode cX6_convert 36 = .ok (.dup, 1) := by decide +kernel
theorem dX6_convert_37 : decode cX6_convert 37 = .ok (.ldc 77, 2) := by decide +kernel
theorem dX6_convert_39 : decode cX6_convert 39 = .ok (.invokespecial 69, 3) := by decide +kernel
theorem dX6_convert_42 : decode cX6_convert 42 = .ok (.athrow, 1) := by decide +kernel
theorem dX6_convert_43 : decode cX6_convert 43 = .ok (.aload_n 0, 1) := by decide +kernel
theorem dX6_convert_44 : decode cX6_convert 44 = .ok (.iload 6, 2) := by decide +kernel
theorem dX6_convert_46 : decode cX6_convert 46 = .ok (.iload_n 2, 1) := by decide +kernel
theorem dX6_convert_47 : decode cX6_convert 47 = .ok (.invokevirtual 42, 3) := by decide +kernel
theorem dX6_convert_50 : decode cX6_convert 50 = .ok (.astore 8, 2) := by decide +kernel
theorem dX6_convert_52 : decode cX6_convert 52 = .ok (.aload_n 0, 1) := by decide +kernel
theorem dX6_convert_53 : decode cX6_convert 53 = .ok (.iload 7, 2) := by decide +kernel
theorem dX6_convert_55 : decode cX6_convert 55 = .ok (.iload 4, 2) := by decide +kernel
theorem dX6_convert_57 : decode cX6_convert 57 = .ok (.invokevirtual 42, 3) := by decide +kernel
theorem dX6_convert_60 : decode cX6_convert 60 = .ok (.astore 9, 2) := by decide +kernel
theorem dX6_convert_62 : decode cX6_convert 62 = .ok (.iconst 0, 1) := by decide +kernel
theorem dX6_convert_63 : decode cX6_convert 63 = .ok (.istore 10, 2) := by decide +kernel
theorem dX6_convert_65 : decode cX6_convert 65 = .ok (.iload 10, 2) := by decide +kernel
theorem dX6_convert_67 : decode cX6_convert 67 = .ok (.aload 8, 2) := by decide +kernel
theorem dX6_convert_69 : decode cX6_convert 69 = .ok (.getfield 46, 3) := by decide +kernel
theorem dX6_convert_72 : decode cX6_convert 72 = .ok (.if_icmp .ge 39, 3) := by decide +kernel
theorem dX6_convert_75 : decode cX6_convert 75 = .ok (.iload 6, 2) := by decide +kernel
theorem dX6_convert_77 : decode cX6_convert 77 = .ok (.iload 5, 2) := by decide +kernel
theorem dX6_convert_79 : decode cX6_convert 79 = .ok (.aload 8, 2) := by decide +kernel
theorem dX6_convert_81 : decode cX6_convert 81 = .ok (.getfield 57, 3) := by decide +kernel
theorem dX6_convert_84 : decode cX6_convert 84 = .ok (.iload 10, 2) := by decide +kernel
theorem dX6_convert_86 : decode cX6_convert 86 = .ok (.laload, 1) := by decide +kernel
theorem dX6_convert_87 : decode cX6_convert 87 = .ok (.iload 7, 2) := by decide +kernel
theorem dX6_convert_89 : decode cX6_convert 89 = .ok (.invokestatic 79, 3) := by decide +kernel
theorem dX6_convert_92 : decode cX6_convert 92 = .ok (.ifCond .ne 13, 3) := by decide +kernel
theorem dX6_convert_95 : decode cX6_convert 95 = .ok (.new 50, 3) := by decide +kernel
theorem dX6_convert_98 : decode cX6_convert 98 = .ok (.dup, 1) := by decide +kernel
theorem dX6_convert_99 : decode cX6_convert 99 = .ok (.ldc 83, 2) := by decide +kernel
theorem dX6_convert_101 : decode cX6_convert 101 = .ok (.invokespecial 54, 3) := by decide +kernel
theorem dX6_convert_104 : decode cX6_convert 104 = .ok (.athrow, 1) := by decide +kernel
theorem dX6_convert_105 : decode cX6_convert 105 = .ok (.iinc 10 1, 3) := by decide +kernel
theorem dX6_convert_108 : decode cX6_convert 108 = .ok (.goto (-43), 3) := by decide +kernel
theorem dX6_convert_111 : decode cX6_convert 111 = .ok (.aload 9, 2) := by decide +kernel
theorem dX6_convert_113 : decode cX6_convert 113 = .ok (.aload 8, 2) := by decide +kernel
theorem dX6_convert_115 : decode cX6_convert 115 = .ok (.getfield 46, 3) := by decide +kernel
theorem dX6_convert_118 : decode cX6_convert 118 = .ok (.putfield 46, 3) := by decide +kernel
theorem dX6_convert_121 : decode cX6_convert 121 = .ok (.iconst 0, 1) := by decide +kernel
theorem dX6_convert_122 : decode cX6_convert 122 = .ok (.istore 10, 2) := by decide +kernel
theorem dX6_convert_124 : decode cX6_convert 124 = .ok (.iload 10, 2) := by decide +kernel
theorem dX6_convert_126 : decode cX6_convert 126 = .ok (.aload 8, 2) := by decide +kernel
theorem dX6_convert_128 : decode cX6_convert 128 = .ok (.getfield 46, 3) := by decide +kernel
theorem dX6_convert_131 : decode cX6_convert 131 = .ok (.if_icmp .ge 32, 3) := by decide +kernel
theorem dX6_convert_134 : decode cX6_convert 134 = .ok (.aload 9, 2) := by decide +kernel
theorem dX6_convert_136 : decode cX6_convert 136 = .ok (.getfield 57, 3) := by decide +kernel
theorem dX6_convert_139 : decode cX6_convert 139 = .ok (.iload 10, 2) := by decide +kernel
theorem dX6_convert_141 : decode cX6_convert 141 = .ok (.iload 6, 2) := by decide +kernel
theorem dX6_convert_143 : decode cX6_convert 143 = .ok (.iload 5, 2) := by decide +kernel
theorem dX6_convert_145 : decode cX6_convert 145 = .ok (.aload 8, 2) := by decide +kernel
theorem dX6_convert_147 : decode cX6_convert 147 = .ok (.getfield 57, 3) := by decide +kernel
theorem dX6_convert_150 : decode cX6_convert 150 = .ok (.iload 10, 2) := by decide +kernel
theorem dX6_convert_152 : decode cX6_convert 152 = .ok (.laload, 1) := by decide +kernel
theorem dX6_convert_153 : decode cX6_convert 153 = .ok (.invokestatic 85, 3) := by decide +kernel
theorem dX6_convert_156 : decode cX6_convert 156 = .ok (.lastore, 1) := by decide +kernel
theorem dX6_convert_157 : decode cX6_convert 157 = .ok (.iinc 10 1, 3) := by decide +kernel
theorem dX6_convert_160 : decode cX6_convert 160 = .ok (.goto (-36), 3) := by decide +kernel
theorem dX6_convert_163 : decode cX6_convert 163 = .ok (.aload 9, 2) := by decide +kernel
theorem dX6_convert_165 : decode cX6_convert 165 = .ok (.getfield 46, 3) := by decide +kernel
theorem dX6_convert_168 : decode cX6_convert 168 = .ok (.ireturn, 1) := by decide +kernel
theorem dX6_span_0 : decode cX6_span 0 = .ok (.aload_n 0, 1) := by decide +kernel
theorem dX6_span_1 : decode cX6_span 1 = .ok (.iload_n 1, 1) := by decide +kernel
theorem dX6_span_2 : decode cX6_span 2 = .ok (.invokevirtual 89, 3) := by decide +kernel
theorem dX6_span_5 : decode cX6_span 5 = .ok (.astore 5, 2) := by decide +kernel
theorem dX6_span_7 : decode cX6_span 7 = .ok (.iload_n 2, 1) := by decide +kernel
theorem dX6_span_8 : decode cX6_span 8 = .ok (.invokestatic 93, 3) := by decide +kernel
theorem dX6_span_11 : decode cX6_span 11 = .ok (.iload_n 3, 1) := by decide +kernel
theorem dX6_span_12 : decode cX6_span 12 = .ok (.ifCond .lt 16, 3) := by decide +kernel
theorem dX6_span_15 : decode cX6_span 15 = .ok (.iload 4, 2) := by decide +kernel
theorem dX6_span_17 : decode cX6_span 17 = .ok (.iload_n 3, 1) := by decide +kernel
theorem dX6_span_18 : decode cX6_span 18 = .ok (.if_icmp .lt 10, 3) := by decide +kernel
theorem dX6_span_21 : decode cX6_span 21 = .ok (.iload 4, 2) := by decide +kernel
theorem dX6_span_23 : decode cX6_span 23 = .ok (.bipush 32, 2) := by decide +kernel
theorem dX6_span_25 : decode cX6_span 25 = .ok (.if_icmp .le 13, 3) := by decide +kernel
theorem dX6_span_28 : decode cX6_span 28 = .ok (.new 65, 3) := by decide +kernel
theorem dX6_span_31 : decode cX6_span 31 = .ok (.dup, 1) := by decide +kernel
theorem dX6_span_32 : decode cX6_span 32 = .ok (.ldc 74, 2) := by decide +kernel
theorem dX6_span_34 : decode cX6_span 34 = .ok (.invokespecial 69, 3) := by decide +kernel
theorem dX6_span_37 : decode cX6_span 37 = .ok (.athrow, 1) := by decide +kernel
theorem dX6_span_38 : decode cX6_span 38 = .ok (.aload 5, 2) := by decide +kernel
theorem dX6_span_40 : decode cX6_span 40 = .ok (.iload_n 2, 1) := by decide +kernel
theorem dX6_span_41 : decode cX6_span 41 = .ok (.putfield 97, 3) := by decide +kernel
theorem dX6_span_44 : decode cX6_span 44 = .ok (.aload 5, 2) := by decide +kernel
theorem dX6_span_46 : decode cX6_span 46 = .ok (.iload_n 3, 1) := by decide +kernel
theorem dX6_span_47 : decode cX6_span 47 = .ok (.putfield 100, 3) := by decide +kernel
theorem dX6_span_50 : decode cX6_span 50 = .ok (.aload 5, 2) := by decide +kernel
theorem dX6_span_52 : decode cX6_span 52 = .ok (.iload 4, 2) := by decide +kernel
theorem dX6_span_54 : decode cX6_span 54 = .ok (.putfield 103, 3) := by decide +kernel
theorem dX6_span_57 : decode cX6_span 57 = .ok (.iload 4, 2) := by decide +kernel
theorem dX6_span_59 : decode cX6_span 59 = .ok (.iload_n 3, 1) := by decide +kernel
theorem dX6_span_60 : decode cX6_span 60 = .ok (.isub, 1) := by decide +kernel
theorem dX6_span_61 : decode cX6_span 61 = .ok (.ireturn, 1) := by decide +kernel
theorem dX6_tells_0 : decode cX6_tells 0 = .ok (.aload_n 0, 1) := by decide +kernel
theorem dX6_tells_1 : decode cX6_tells 1 = .ok (.iload_n 1, 1) := by decide +kernel
theorem dX6_tells_2 : decode cX6_tells 2 = .ok (.invokevirtual 89, 3) := by decide +kernel
theorem dX6_tells_5 : decode cX6_tells 5 = .ok (.astore_n 3, 1) := by decide +kernel
theorem dX6_tells_6 : decode cX6_tells 6 = .ok (.iload_n 2, 1) := by decide +kernel
theorem dX6_tells_7 : decode cX6_tells 7 = .ok (.lookupswitch 48 #[(102, 38), (114, 33), (116, 43)], 33) := by decide +kernel
theorem dX6_tells_40 : decode cX6_tells 40 = .ok (.aload_n 3, 1) := by decide +kernel
theorem dX6_tells_41 : decode cX6_tells 41 = .ok (.getfield 97, 3) := by decide +kernel
theorem dX6_tells_44 : decode cX6_tells 44 = .ok (.ireturn, 1) := by decide +kernel
theorem dX6_tells_45 : decode cX6_tells 45 = .ok (.aload_n 3, 1) := by decide +kernel
theorem dX6_tells_46 : decode cX6_tells 46 = .ok (.getfield 100, 3) := by decide +kernel
theorem dX6_tells_49 : decode cX6_tells 49 = .ok (.ireturn, 1) := by decide +kernel
theorem dX6_tells_50 : decode cX6_tells 50 = .ok (.aload_n 3, 1) := by decide +kernel
theorem dX6_tells_51 : decode cX6_tells 51 = .ok (.getfield 103, 3) := by decide +kernel
theorem dX6_tells_54 : decode cX6_tells 54 = .ok (.ireturn, 1) := by decide +kernel
theorem dX6_tells_55 : decode cX6_tells 55 = .ok (.new 65, 3) := by decide +kernel
theorem dX6_tells_58 : decode cX6_tells 58 = .ok (.dup, 1) := by decide +kernel
theorem dX6_tells_59 : decode cX6_tells 59 = .ok (.ldc 106, 2) := by decide +kernel
theorem dX6_tells_61 : decode cX6_tells 61 = .ok (.invokespecial 69, 3) := by decide +kernel
theorem dX6_tells_64 : decode cX6_tells 64 = .ok (.athrow, 1) := by decide +kernel
theorem dX6_fits_0 : decode cX6_fits 0 = .ok (.iload_n 1, 1) := by decide +kernel
theorem dX6_fits_1 : decode cX6_fits 1 = .ok (.invokestatic 34, 3) := by decide +kernel
theorem dX6_fits_4 : decode cX6_fits 4 = .ok (.istore_n 3, 1) := by decide +kernel
theorem dX6_fits_5 : decode cX6_fits 5 = .ok (.aload_n 0, 1) := by decide +kernel
theorem dX6_fits_6 : decode cX6_fits 6 = .ok (.iload_n 3, 1) := by decide +kernel
theorem dX6_fits_7 : decode cX6_fits 7 = .ok (.aload_n 0, 1) := by decide +kernel
theorem dX6_fits_8 : decode cX6_fits 8 = .ok (.iload_n 2, 1) := by decide +kernel
theorem dX6_fits_9 : decode cX6_fits 9 = .ok (.invokevirtual 89, 3) := by decide +kernel
theorem dX6_fits_12 : decode cX6_fits 12 = .ok (.invokevirtual 108, 3) := by decide +kernel
theorem dX6_fits_15 : decode cX6_fits 15 = .ok (.ireturn, 1) := by decide +kernel
theorem dX6_asks_0 : decode cX6_asks 0 = .ok (.iload_n 1, 1) := by decide +kernel
theorem dX6_asks_1 : decode cX6_asks 1 = .ok (.invokestatic 34, 3) := by decide +kernel
theorem dX6_asks_4 : decode cX6_asks 4 = .ok (.istore 5, 2) := by decide +kernel
theorem dX6_asks_6 : decode cX6_asks 6 = .ok (.iload_n 2, 1) := by decide +kernel
theorem dX6_asks_7 : decode cX6_asks 7 = .ok (.invokestatic 112, 3) := by decide +kernel
theorem dX6_asks_10 : decode cX6_asks 10 = .ok (.aload_n 0, 1) := by decide +kernel
theorem dX6_asks_11 : decode cX6_asks 11 = .ok (.iload_n 3, 1) := by decide +kernel
theorem dX6_asks_12 : decode cX6_asks 12 = .ok (.invokevirtual 89, 3) := by decide +kernel
theorem dX6_asks_15 : decode cX6_asks 15 = .ok (.astore 6, 2) := by decide +kernel
theorem dX6_asks_17 : decode cX6_asks 17 = .ok (.aload_n 0, 1) := by decide +kernel
theorem dX6_asks_18 : decode cX6_asks 18 = .ok (.iload 4, 2) := by decide +kernel
theorem dX6_asks_20 : decode cX6_asks 20 = .ok (.invokevirtual 89, 3) := by decide +kernel
theorem dX6_asks_23 : decode cX6_asks 23 = .ok (.astore 7, 2) := by decide +kernel
theorem dX6_asks_25 : decode cX6_asks 25 = .ok (.iload_n 2, 1) := by decide +kernel
theorem dX6_asks_26 : decode cX6_asks 26 = .ok (.aload_n 0, 1) := by decide +kernel
theorem dX6_asks_27 : decode cX6_asks 27 = .ok (.iload 5, 2) := by decide +kernel
theorem dX6_asks_29 : decode cX6_asks 29 = .ok (.aload 6, 2) := by decide +kernel
theorem dX6_asks_31 : decode cX6_asks 31 = .ok (.invokevirtual 116, 3) := by decide +kernel
theorem dX6_asks_34 : decode cX6_asks 34 = .ok (.aload_n 0, 1) := by decide +kernel
theorem dX6_asks_35 : decode cX6_asks 35 = .ok (.iload 5, 2) := by decide +kernel
theorem dX6_asks_37 : decode cX6_asks 37 = .ok (.aload 7, 2) := by decide +kernel
theorem dX6_asks_39 : decode cX6_asks 39 = .ok (.invokevirtual 116, 3) := by decide +kernel
theorem dX6_asks_42 : decode cX6_asks 42 = .ok (.invokestatic 120, 3) := by decide +kernel
theorem dX6_asks_45 : decode cX6_asks 45 = .ok (.ireturn, 1) := by decide +kernel
theorem dX6_asksRows_0 : decode cX6_asksRows 0 = .ok (.iload_n 1, 1) := by decide +kernel
theorem dX6_asksRows_1 : decode cX6_asksRows 1 = .ok (.invokestatic 34, 3) := by decide +kernel
theorem dX6_asksRows_4 : decode cX6_asksRows 4 = .ok (.istore 5, 2) := by decide +kernel
theorem dX6_asksRows_6 : decode cX6_asksRows 6 = .ok (.iload_n 2, 1) := by decide +kernel
theorem dX6_asksRows_7 : decode cX6_asksRows 7 = .ok (.invokestatic 112, 3) := by decide +kernel
theorem dX6_asksRows_10 : decode cX6_asksRows 10 = .ok (.aload_n 0, 1) := by decide +kernel
theorem dX6_asksRows_11 : decode cX6_asksRows 11 = .ok (.iload 5, 2) := by decide +kernel
theorem dX6_asksRows_13 : decode cX6_asksRows 13 = .ok (.iload_n 3, 1) := by decide +kernel
theorem dX6_asksRows_14 : decode cX6_asksRows 14 = .ok (.invokevirtual 42, 3) := by decide +kernel
theorem dX6_asksRows_17 : decode cX6_asksRows 17 = .ok (.astore 6, 2) := by decide +kernel
theorem dX6_asksRows_19 : decode cX6_asksRows 19 = .ok (.aload_n 0, 1) := by decide +kernel
theorem dX6_asksRows_20 : decode cX6_asksRows 20 = .ok (.iload 5, 2) := by decide +kernel
theorem dX6_asksRows_22 : decode cX6_asksRows 22 = .ok (.iload 4, 2) := by decide +kernel
theorem dX6_asksRows_24 : decode cX6_asksRows 24 = .ok (.invokevirtual 42, 3) := by decide +kernel
theorem dX6_asksRows_27 : decode cX6_asksRows 27 = .ok (.astore 7, 2) := by decide +kernel
theorem dX6_asksRows_29 : decode cX6_asksRows 29 = .ok (.iload_n 2, 1) := by decide +kernel
theorem dX6_asksRows_30 : decode cX6_asksRows 30 = .ok (.new 124, 3) := by decide +kernel
theorem dX6_asksRows_33 : decode cX6_asksRows 33 = .ok (.dup, 1) := by decide +kernel
theorem dX6_asksRows_34 : decode cX6_asksRows 34 = .ok (.aload 6, 2) := by decide +kernel
theorem dX6_asksRows_36 : decode cX6_asksRows 36 = .ok (.getfield 57, 3) := by decide +kernel
theorem dX6_asksRows_39 : decode cX6_asksRows 39 = .ok (.iconst 0, 1) := by decide +kernel
theorem dX6_asksRows_40 : decode cX6_asksRows 40 = .ok (.aload 6, 2) := by decide +kernel
theorem dX6_asksRows_42 : decode cX6_asksRows 42 = .ok (.getfield 46, 3) := by decide +kernel
theorem dX6_asksRows_45 : decode cX6_asksRows 45 = .ok (.invokespecial 126, 3) := by decide +kernel
theorem dX6_asksRows_48 : decode cX6_asksRows 48 = .ok (.new 124, 3) := by decide +kernel
theorem dX6_asksRows_51 : decode cX6_asksRows 51 = .ok (.dup, 1) := by decide +kernel
theorem dX6_asksRows_52 : decode cX6_asksRows 52 = .ok (.aload 7, 2) := by decide +kernel
theorem dX6_asksRows_54 : decode cX6_asksRows 54 = .ok (.getfield 57, 3) := by decide +kernel
theorem dX6_asksRows_57 : decode cX6_asksRows 57 = .ok (.iconst 0, 1) := by decide +kernel
theorem dX6_asksRows_58 : decode cX6_asksRows 58 = .ok (.aload 7, 2) := by decide +kernel
theorem dX6_asksRows_60 : decode cX6_asksRows 60 = .ok (.getfield 46, 3) := by decide +kernel
theorem dX6_asksRows_63 : decode cX6_asksRows 63 = .ok (.invokespecial 126, 3) := by decide +kernel
theorem dX6_asksRows_66 : decode cX6_asksRows 66 = .ok (.invokestatic 120, 3) := by decide +kernel
theorem dX6_asksRows_69 : decode cX6_asksRows 69 = .ok (.ireturn, 1) := by decide +kernel
theorem dX6_refused_0 : decode cX6_refused 0 = .ok (.iload_n 1, 1) := by decide +kernel
theorem dX6_refused_1 : decode cX6_refused 1 = .ok (.invokestatic 34, 3) := by decide +kernel
theorem dX6_refused_4 : decode cX6_refused 4 = .ok (.istore 6, 2) := by decide +kernel
theorem dX6_refused_6 : decode cX6_refused 6 = .ok (.iload_n 2, 1) := by decide +kernel
theorem dX6_refused_7 : decode cX6_refused 7 = .ok (.invokestatic 112, 3) := by decide +kernel
theorem dX6_refused_10 : decode cX6_refused 10 = .ok (.aload_n 0, 1) := by decide +kernel
theorem dX6_refused_11 : decode cX6_refused 11 = .ok (.iload 6, 2) := by decide +kernel
theorem dX6_refused_13 : decode cX6_refused 13 = .ok (.iload_n 3, 1) := by decide +kernel
theorem dX6_refused_14 : decode cX6_refused 14 = .ok (.invokevirtual 42, 3) := by decide +kernel
theorem dX6_refused_17 : decode cX6_refused 17 = .ok (.astore 7, 2) := by decide +kernel
theorem dX6_refused_19 : decode cX6_refused 19 = .ok (.iload 4, 2) := by decide +kernel
theorem dX6_refused_21 : decode cX6_refused 21 = .ok (.iload 5, 2) := by decide +kernel
theorem dX6_refused_23 : decode cX6_refused 23 = .ok (.if_icmp .le 7, 3) := by decide +kernel
theorem dX6_refused_26 : decode cX6_refused 26 = .ok (.iconst 1, 1) := by decide +kernel
theorem dX6_refused_27 : decode cX6_refused 27 = .ok (.goto 4, 3) := by decide +kernel
theorem dX6_refused_30 : decode cX6_refused 30 = .ok (.iconst 0, 1) := by decide +kernel
theorem dX6_refused_31 : decode cX6_refused 31 = .ok (.istore 8, 2) := by decide +kernel
theorem dX6_refused_33 : decode cX6_refused 33 = .ok (.iload 4, 2) := by decide +kernel
theorem dX6_refused_35 : decode cX6_refused 35 = .ok (.ifCond .lt 13, 3) := by decide +kernel
theorem dX6_refused_38 : decode cX6_refused 38 = .ok (.iload 5, 2) := by decide +kernel
theorem dX6_refused_40 : decode cX6_refused 40 = .ok (.aload 7, 2) := by decide +kernel
theorem dX6_refused_42 : decode cX6_refused 42 = .ok (.getfield 46, 3) := by decide +kernel
theorem dX6_refused_45 : decode cX6_refused 45 = .ok (.if_icmp .le 7, 3) := by decide +kernel
theorem dX6_refused_48 : decode cX6_refused 48 = .ok (.iconst 2, 1) := by decide +kernel
theorem dX6_refused_49 : decode cX6_refused 49 = .ok (.goto 4, 3) := by decide +kernel
theorem dX6_refused_52 : decode cX6_refused 52 = .ok (.iconst 0, 1) := by decide +kernel
theorem dX6_refused_53 : decode cX6_refused 53 = .ok (.istore 9, 2) := by decide +kernel
theorem dX6_refused_55 : decode cX6_refused 55 = .ok (.iload 8, 2) := by decide +kernel
theorem dX6_refused_57 : decode cX6_refused 57 = .ok (.iload 9, 2) := by decide +kernel
theorem dX6_refused_59 : decode cX6_refused 59 = .ok (.iadd, 1) := by decide +kernel
theorem dX6_refused_60 : decode cX6_refused 60 = .ok (.ireturn, 1) := by decide +kernel
theorem dX6_common_0 : decode cX6_common 0 = .ok (.iload_n 1, 1) := by decide +kernel
theorem dX6_common_1 : decode cX6_common 1 = .ok (.invokestatic 34, 3) := by decide +kernel
theorem dX6_common_4 : decode cX6_common 4 = .ok (.istore 4, 2) := by decide +kernel
theorem dX6_common_6 : decode cX6_common 6 = .ok (.aload_n 0, 1) := by decide +kernel
theorem dX6_common_7 : decode cX6_common 7 = .ok (.iload_n 2, 1) := by decide +kernel
theorem dX6_common_8 : decode cX6_common 8 = .ok (.invokevirtual 89, 3) := by decide +kernel
theorem dX6_common_11 : decode cX6_common 11 = .ok (.astore 5, 2) := by decide +kernel
theorem dX6_common_13 : decode cX6_common 13 = .ok (.aload_n 0, 1) := by decide +kernel
theorem dX6_common_14 : decode cX6_common 14 = .ok (.iload_n 3, 1) := by decide +kernel
theorem dX6_common_15 : decode cX6_common 15 = .ok (.invokevirtual 89, 3) := by decide +kernel
theorem dX6_common_18 : decode cX6_common 18 = .ok (.astore 6, 2) := by decide +kernel
theorem dX6_common_20 : decode cX6_common 20 = .ok (.aload_n 0, 1) := by decide +kernel
theorem dX6_common_21 : decode cX6_common 21 = .ok (.iload 4, 2) := by decide +kernel
theorem dX6_common_23 : decode cX6_common 23 = .ok (.aload 5, 2) := by decide +kernel
theorem dX6_common_25 : decode cX6_common 25 = .ok (.invokevirtual 116, 3) := by decide +kernel
theorem dX6_common_28 : decode cX6_common 28 = .ok (.aload_n 0, 1) := by decide +kernel
theorem dX6_common_29 : decode cX6_common 29 = .ok (.iload 4, 2) := by decide +kernel
theorem dX6_common_31 : decode cX6_common 31 = .ok (.aload 6, 2) := by decide +kernel
theorem dX6_common_33 : decode cX6_common 33 = .ok (.invokevirtual 116, 3) := by decide +kernel
theorem dX6_common_36 : decode cX6_common 36 = .ok (.invokestatic 129, 3) := by decide +kernel
theorem dX6_common_39 : decode cX6_common 39 = .ok (.ireturn, 1) := by decide +kernel
theorem dX6_rank_0 : decode cX6_rank 0 = .ok (.iload_n 1, 1) := by decide +kernel
theorem dX6_rank_1 : decode cX6_rank 1 = .ok (.invokestatic 34, 3) := by decide +kernel
theorem dX6_rank_4 : decode cX6_rank 4 = .ok (.istore 4, 2) := by decide +kernel
theorem dX6_rank_6 : decode cX6_rank 6 = .ok (.iload_n 2, 1) := by decide +kernel
theorem dX6_rank_7 : decode cX6_rank 7 = .ok (.invokestatic 133, 3) := by decide +kernel
theorem dX6_rank_10 : decode cX6_rank 10 = .ok (.istore 5, 2) := by decide +kernel
theorem dX6_rank_12 : decode cX6_rank 12 = .ok (.aload_n 0, 1) := by decide +kernel
theorem dX6_rank_13 : decode cX6_rank 13 = .ok (.iload 4, 2) := by decide +kernel
theorem dX6_rank_15 : decode cX6_rank 15 = .ok (.aload_n 0, 1) := by decide +kernel
theorem dX6_rank_16 : decode cX6_rank 16 = .ok (.iload_n 3, 1) := by decide +kernel
theorem dX6_rank_17 : decode cX6_rank 17 = .ok (.invokevirtual 89, 3) := by decide +kernel
theorem dX6_rank_20 : decode cX6_rank 20 = .ok (.invokevirtual 116, 3) := by decide +kernel
theorem dX6_rank_23 : decode cX6_rank 23 = .ok (.astore 6, 2) := by decide +kernel
theorem dX6_rank_25 : decode cX6_rank 25 = .ok (.iconst 0, 1) := by decide +kernel
theorem dX6_rank_26 : decode cX6_rank 26 = .ok (.istore 7, 2) := by decide +kernel
theorem dX6_rank_28 : decode cX6_rank 28 = .ok (.aload_n 0, 1) := by decide +kernel
theorem dX6_rank_29 : decode cX6_rank 29 = .ok (.getfield 17, 3) := by decide +kernel
theorem dX6_rank_32 : decode cX6_rank 32 = .ok (.astore 8, 2) := by decide +kernel
theorem dX6_rank_34 : decode cX6_rank 34 = .ok (.aload 8, 2) := by decide +kernel
theorem dX6_rank_36 : decode cX6_rank 36 = .ok (.arraylength, 1) := by decide +kernel
theorem dX6_rank_37 : decode cX6_rank 37 = .ok (.istore 9, 2) := by decide +kernel
theorem dX6_rank_39 : decode cX6_rank 39 = .ok (.iconst 0, 1) := by decide +kernel
theorem dX6_rank_40 : decode cX6_rank 40 = .ok (.istore 10, 2) := by decide +kernel
theorem dX6_rank_42 : decode cX6_rank 42 = .ok (.iload 10, 2) := by decide +kernel
theorem dX6_rank_44 : decode cX6_rank 44 = .ok (.iload 9, 2) := by decide +kernel
theorem dX6_rank_46 : decode cX6_rank 46 = .ok (.if_icmp .ge 48, 3) := by decide +kernel
theorem dX6_rank_49 : decode cX6_rank 49 = .ok (.aload 8, 2) := by decide +kernel
theorem dX6_rank_51 : decode cX6_rank 51 = .ok (.iload 10, 2) := by decide +kernel
theorem dX6_rank_53 : decode cX6_rank 53 = .ok (.aaload, 1) := by decide +kernel
theorem dX6_rank_54 : decode cX6_rank 54 = .ok (.astore 11, 2) := by decide +kernel
theorem dX6_rank_56 : decode cX6_rank 56 = .ok (.aload_n 0, 1) := by decide +kernel
theorem dX6_rank_57 : decode cX6_rank 57 = .ok (.iload 4, 2) := by decide +kernel
theorem dX6_rank_59 : decode cX6_rank 59 = .ok (.aload 11, 2) := by decide +kernel
theorem dX6_rank_61 : decode cX6_rank 61 = .ok (.invokevirtual 108, 3) := by decide +kernel
theorem dX6_rank_64 : decode cX6_rank 64 = .ok (.ifCond .eq 24, 3) := by decide +kernel
theorem dX6_rank_67 : decode cX6_rank 67 = .ok (.aload_n 0, 1) := by decide +kernel
theorem dX6_rank_68 : decode cX6_rank 68 = .ok (.iload 4, 2) := by decide +kernel
theorem dX6_rank_70 : decode cX6_rank 70 = .ok (.aload 11, 2) := by decide +kernel
theorem dX6_rank_72 : decode cX6_rank 72 = .ok (.invokevirtual 137, 3) := by decide +kernel
theorem dX6_rank_75 : decode cX6_rank 75 = .ok (.aload 6, 2) := by decide +kernel
theorem dX6_rank_77 : decode cX6_rank 77 = .ok (.iload 5, 2) := by decide +kernel
theorem dX6_rank_79 : decode cX6_rank 79 = .ok (.invokestatic 140, 3) := by decide +kernel
theorem dX6_rank_82 : decode cX6_rank 82 = .ok (.ifCond .ge 6, 3) := by decide +kernel
theorem dX6_rank_85 : decode cX6_rank 85 = .ok (.iinc 7 1, 3) := by decide +kernel
theorem dX6_rank_88 : decode cX6_rank 88 = .ok (.iinc 10 1, 3) := by decide +kernel
theorem dX6_rank_91 : decode cX6_rank 91 = .ok (.goto (-49), 3) := by decide +kernel
theorem dX6_rank_94 : decode cX6_rank 94 = .ok (.iload 7, 2) := by decide +kernel
theorem dX6_rank_96 : decode cX6_rank 96 = .ok (.ireturn, 1) := by decide +kernel
theorem dX6_sort_0 : decode cX6_sort 0 = .ok (.iload_n 1, 1) := by decide +kernel
theorem dX6_sort_1 : decode cX6_sort 1 = .ok (.invokestatic 34, 3) := by decide +kernel
theorem dX6_sort_4 : decode cX6_sort 4 = .ok (.istore_n 3, 1) := by decide +kernel
theorem dX6_sort_5 : decode cX6_sort 5 = .ok (.iload_n 2, 1) := by decide +kernel
theorem dX6_sort_6 : decode cX6_sort 6 = .ok (.invokestatic 133, 3) := by decide +kernel
theorem dX6_sort_9 : decode cX6_sort 9 = .ok (.istore 4, 2) := by decide +kernel
theorem dX6_sort_11 : decode cX6_sort 11 = .ok (.aload_n 0, 1) := by decide +kernel
theorem dX6_sort_12 : decode cX6_sort 12 = .ok (.iconst 0, 1) := by decide +kernel
theorem dX6_sort_13 : decode cX6_sort 13 = .ok (.putfield 144, 3) := by decide +kernel
theorem dX6_sort_16 : decode cX6_sort 16 = .ok (.iconst 0, 1) := by decide +kernel
theorem dX6_sort_17 : decode cX6_sort 17 = .ok (.istore 5, 2) := by decide +kernel
theorem dX6_sort_19 : decode cX6_sort 19 = .ok (.iload 5, 2) := by decide +kernel
theorem dX6_sort_21 : decode cX6_sort 21 = .ok (.bipush 12, 2) := by decide +kernel
theorem dX6_sort_23 : decode cX6_sort 23 = .ok (.if_icmp .ge 33, 3) := by decide +kernel
theorem dX6_sort_26 : decode cX6_sort 26 = .ok (.aload_n 0, 1) := by decide +kernel
theorem dX6_sort_27 : decode cX6_sort 27 = .ok (.iload_n 3, 1) := by decide +kernel
theorem dX6_sort_28 : decode cX6_sort 28 = .ok (.aload_n 0, 1) := by decide +kernel
theorem dX6_sort_29 : decode cX6_sort 29 = .ok (.getfield 17, 3) := by decide +kernel
theorem dX6_sort_32 : decode cX6_sort 32 = .ok (.iload 5, 2) := by decide +kernel
theorem dX6_sort_34 : decode cX6_sort 34 = .ok (.aaload, 1) := by decide +kernel
theorem dX6_sort_35 : decode cX6_sort 35 = .ok (.invokevirtual 108, 3) := by decide +kernel
theorem dX6_sort_38 : decode cX6_sort 38 = .ok (.ifCond .eq 12, 3) := by decide +kernel
theorem dX6_sort_41 : decode cX6_sort 41 = .ok (.aload_n 0, 1) := by decide +kernel
theorem dX6_sort_42 : decode cX6_sort 42 = .ok (.iload_n 3, 1) := by decide +kernel
theorem dX6_sort_43 : decode cX6_sort 43 = .ok (.iload 4, 2) := by decide +kernel
theorem dX6_sort_45 : decode cX6_sort 45 = .ok (.iload 5, 2) := by decide +kernel
theorem dX6_sort_47 : decode cX6_sort 47 = .ok (.invokevirtual 147, 3) := by decide +kernel
theorem dX6_sort_50 : decode cX6_sort 50 = .ok (.iinc 5 1, 3) := by decide +kernel
theorem dX6_sort_53 : decode cX6_sort 53 = .ok (.goto (-34), 3) := by decide +kernel
theorem dX6_sort_56 : decode cX6_sort 56 = .ok (.aload_n 0, 1) := by decide +kernel
theorem dX6_sort_57 : decode cX6_sort 57 = .ok (.getfield 144, 3) := by decide +kernel
theorem dX6_sort_60 : decode cX6_sort 60 = .ok (.ireturn, 1) := by decide +kernel
theorem dX6_sorted_0 : decode cX6_sorted 0 = .ok (.iload_n 1, 1) := by decide +kernel
theorem dX6_sorted_1 : decode cX6_sorted 1 = .ok (.aload_n 0, 1) := by decide +kernel
theorem dX6_sorted_2 : decode cX6_sorted 2 = .ok (.getfield 144, 3) := by decide +kernel
theorem dX6_sorted_5 : decode cX6_sorted 5 = .ok (.invokestatic 61, 3) := by decide +kernel
theorem dX6_sorted_8 : decode cX6_sorted 8 = .ok (.aload_n 0, 1) := by decide +kernel
theorem dX6_sorted_9 : decode cX6_sorted 9 = .ok (.getfield 21, 3) := by decide +kernel
theorem dX6_sorted_12 : decode cX6_sorted 12 = .ok (.iload_n 1, 1) := by decide +kernel
theorem dX6_sorted_13 : decode cX6_sorted 13 = .ok (.iaload, 1) := by decide +kernel
theorem dX6_sorted_14 : decode cX6_sorted 14 = .ok (.ireturn, 1) := by decide +kernel
theorem dX6_ending_0 : decode cX6_ending 0 = .ok (.iload_n 1, 1) := by decide +kernel
theorem dX6_ending_1 : decode cX6_ending 1 = .ok (.invokestatic 34, 3) := by decide +kernel
theorem dX6_ending_4 : decode cX6_ending 4 = .ok (.istore 5, 2) := by decide +kernel
theorem dX6_ending_6 : decode cX6_ending 6 = .ok (.iload_n 2, 1) := by decide +kernel
theorem dX6_ending_7 : decode cX6_ending 7 = .ok (.invokestatic 133, 3) := by decide +kernel
theorem dX6_ending_10 : decode cX6_ending 10 = .ok (.istore 6, 2) := by decide +kernel
theorem dX6_ending_12 : decode cX6_ending 12 = .ok (.aload_n 0, 1) := by decide +kernel
theorem dX6_ending_13 : decode cX6_ending 13 = .ok (.iload 5, 2) := by decide +kernel
theorem dX6_ending_15 : decode cX6_ending 15 = .ok (.iload_n 3, 1) := by decide +kernel
theorem dX6_ending_16 : decode cX6_ending 16 = .ok (.invokevirtual 42, 3) := by decide +kernel
theorem dX6_ending_19 : decode cX6_ending 19 = .ok (.astore 7, 2) := by decide +kernel
theorem dX6_ending_21 : decode cX6_ending 21 = .ok (.iload 4, 2) := by decide +kernel
theorem dX6_ending_23 : decode cX6_ending 23 = .ok (.aload 7, 2) := by decide +kernel
theorem dX6_ending_25 : decode cX6_ending 25 = .ok (.getfield 46, 3) := by decide +kernel
theorem dX6_ending_28 : decode cX6_ending 28 = .ok (.invokestatic 61, 3) := by decide +kernel
theorem dX6_ending_31 : decode cX6_ending 31 = .ok (.aload_n 0, 1) := by decide +kernel
theorem dX6_ending_32 : decode cX6_ending 32 = .ok (.getfield 28, 3) := by decide +kernel
theorem dX6_ending_35 : decode cX6_ending 35 = .ok (.aload 7, 2) := by decide +kernel
theorem dX6_ending_37 : decode cX6_ending 37 = .ok (.iload 6, 2) := by decide +kernel
theorem dX6_ending_39 : decode cX6_ending 39 = .ok (.invokevirtual 151, 3) := by decide +kernel
theorem dX6_ending_42 : decode cX6_ending 42 = .ok (.aload_n 0, 1) := by decide +kernel
theorem dX6_ending_43 : decode cX6_ending 43 = .ok (.getfield 28, 3) := by decide +kernel
theorem dX6_ending_46 : decode cX6_ending 46 = .ok (.invokevirtual 155, 3) := by decide +kernel
theorem dX6_ending_49 : decode cX6_ending 49 = .ok (.aload_n 0, 1) := by decide +kernel
theorem dX6_ending_50 : decode cX6_ending 50 = .ok (.getfield 28, 3) := by decide +kernel
theorem dX6_ending_53 : decode cX6_ending 53 = .ok (.getfield 158, 3) := by decide +kernel
theorem dX6_ending_56 : decode cX6_ending 56 = .ok (.iload 4, 2) := by decide +kernel
theorem dX6_ending_58 : decode cX6_ending 58 = .ok (.iaload, 1) := by decide +kernel
theorem dX6_ending_59 : decode cX6_ending 59 = .ok (.ireturn, 1) := by decide +kernel
theorem dX6_distinct_0 : decode cX6_distinct 0 = .ok (.aload_n 0, 1) := by decide +kernel
theorem dX6_distinct_1 : decode cX6_distinct 1 = .ok (.getfield 28, 3) := by decide +kernel
theorem dX6_distinct_4 : decode cX6_distinct 4 = .ok (.aload_n 0, 1) := by decide +kernel
theorem dX6_distinct_5 : decode cX6_distinct 5 = .ok (.iload_n 1, 1) := by decide +kernel
theorem dX6_distinct_6 : decode cX6_distinct 6 = .ok (.invokestatic 34, 3) := by decide +kernel
theorem dX6_distinct_9 : decode cX6_distinct 9 = .ok (.iload_n 2, 1) := by decide +kernel
theorem dX6_distinct_10 : decode cX6_distinct 10 = .ok (.invokevirtual 42, 3) := by decide +kernel
theorem dX6_distinct_13 : decode cX6_distinct 13 = .ok (.iconst 0, 1) := by decide +kernel
theorem dX6_distinct_14 : decode cX6_distinct 14 = .ok (.invokevirtual 151, 3) := by decide +kernel
theorem dX6_distinct_17 : decode cX6_distinct 17 = .ok (.aload_n 0, 1) := by decide +kernel
theorem dX6_distinct_18 : decode cX6_distinct 18 = .ok (.getfield 28, 3) := by decide +kernel
theorem dX6_distinct_21 : decode cX6_distinct 21 = .ok (.invokevirtual 161, 3) := by decide +kernel
theorem dX6_distinct_24 : decode cX6_distinct 24 = .ok (.ireturn, 1) := by decide +kernel
theorem dX6_longest_0 : decode cX6_longest 0 = .ok (.aload_n 0, 1) := by decide +kernel
theorem dX6_longest_1 : decode cX6_longest 1 = .ok (.getfield 28, 3) := by decide +kernel
theorem dX6_longest_4 : decode cX6_longest 4 = .ok (.aload_n 0, 1) := by decide +kernel
theorem dX6_longest_5 : decode cX6_longest 5 = .ok (.iload_n 1, 1) := by decide +kernel
theorem dX6_longest_6 : decode cX6_longest 6 = .ok (.invokestatic 34, 3) := by decide +kernel
theorem dX6_longest_9 : decode cX6_longest 9 = .ok (.iload_n 2, 1) := by decide +kernel
theorem dX6_longest_10 : decode cX6_longest 10 = .ok (.invokevirtual 42, 3) := by decide +kernel
theorem dX6_longest_13 : decode cX6_longest 13 = .ok (.iconst 0, 1) := by decide +kernel
theorem dX6_longest_14 : decode cX6_longest 14 = .ok (.invokevirtual 151, 3) := by decide +kernel
theorem dX6_longest_17 : decode cX6_longest 17 = .ok (.aload_n 0, 1) := by decide +kernel
theorem dX6_longest_18 : decode cX6_longest 18 = .ok (.getfield 28, 3) := by decide +kernel
theorem dX6_longest_21 : decode cX6_longest 21 = .ok (.invokevirtual 165, 3) := by decide +kernel
theorem dX6_longest_24 : decode cX6_longest 24 = .ok (.ireturn, 1) := by decide +kernel
theorem dX6_occurs_0 : decode cX6_occurs 0 = .ok (.iload_n 1, 1) := by decide +kernel
theorem dX6_occurs_1 : decode cX6_occurs 1 = .ok (.invokestatic 34, 3) := by decide +kernel
theorem dX6_occurs_4 : decode cX6_occurs 4 = .ok (.istore 4, 2) := by decide +kernel
theorem dX6_occurs_6 : decode cX6_occurs 6 = .ok (.aload_n 0, 1) := by decide +kernel
theorem dX6_occurs_7 : decode cX6_occurs 7 = .ok (.iload 4, 2) := by decide +kernel
theorem dX6_occurs_9 : decode cX6_occurs 9 = .ok (.iload_n 2, 1) := by decide +kernel
theorem dX6_occurs_10 : decode cX6_occurs 10 = .ok (.invokevirtual 42, 3) := by decide +kernel
theorem dX6_occurs_13 : decode cX6_occurs 13 = .ok (.astore 5, 2) := by decide +kernel
theorem dX6_occurs_15 : decode cX6_occurs 15 = .ok (.aload_n 0, 1) := by decide +kernel
theorem dX6_occurs_16 : decode cX6_occurs 16 = .ok (.iload 4, 2) := by decide +kernel
theorem dX6_occurs_18 : decode cX6_occurs 18 = .ok (.aload_n 0, 1) := by decide +kernel
theorem dX6_occurs_19 : decode cX6_occurs 19 = .ok (.iload_n 3, 1) := by decide +kernel
theorem dX6_occurs_20 : decode cX6_occurs 20 = .ok (.invokevirtual 89, 3) := by decide +kernel
theorem dX6_occurs_23 : decode cX6_occurs 23 = .ok (.invokevirtual 116, 3) := by decide +kernel
theorem dX6_occurs_26 : decode cX6_occurs 26 = .ok (.astore 6, 2) := by decide +kernel
theorem dX6_occurs_28 : decode cX6_occurs 28 = .ok (.iconst 0, 1) := by decide +kernel
theorem dX6_occurs_29 : decode cX6_occurs 29 = .ok (.istore 7, 2) := by decide +kernel
theorem dX6_occurs_31 : decode cX6_occurs 31 = .ok (.iconst 0, 1) := by decide +kernel
theorem dX6_occurs_32 : decode cX6_occurs 32 = .ok (.istore 8, 2) := by decide +kernel
theorem dX6_occurs_34 : decode cX6_occurs 34 = .ok (.iload 8, 2) := by decide +kernel
theorem dX6_occurs_36 : decode cX6_occurs 36 = .ok (.aload 6, 2) := by decide +kernel
theorem dX6_occurs_38 : decode cX6_occurs 38 = .ok (.invokevirtual 168, 3) := by decide +kernel
theorem dX6_occurs_41 : decode cX6_occurs 41 = .ok (.iadd, 1) := by decide +kernel
theorem dX6_occurs_42 : decode cX6_occurs 42 = .ok (.aload 5, 2) := by decide +kernel
theorem dX6_occurs_44 : decode cX6_occurs 44 = .ok (.getfield 46, 3) := by decide +kernel
theorem dX6_occurs_47 : decode cX6_occurs 47 = .ok (.if_icmp .gt 44, 3) := by decide +kernel
theorem dX6_occurs_50 : decode cX6_occurs 50 = .ok (.new 124, 3) := by decide +kernel
theorem dX6_occurs_53 : decode cX6_occurs 53 = .ok (.dup, 1) := by decide +kernel
theorem dX6_occurs_54 : decode cX6_occurs 54 = .ok (.aload 5, 2) := by decide +kernel
theorem dX6_occurs_56 : decode cX6_occurs 56 = .ok (.getfield 57, 3) := by decide +kernel
theorem dX6_occurs_59 : decode cX6_occurs 59 = .ok (.iload 8, 2) := by decide +kernel
theorem dX6_occurs_61 : decode cX6_occurs 61 = .ok (.aload 5, 2) := by decide +kernel
theorem dX6_occurs_63 : decode cX6_occurs 63 = .ok (.getfield 46, 3) := by decide +kernel
theorem dX6_occurs_66 : decode cX6_occurs 66 = .ok (.invokespecial 126, 3) := by decide +kernel
theorem dX6_occurs_69 : decode cX6_occurs 69 = .ok (.aload 6, 2) := by decide +kernel
theorem dX6_occurs_71 : decode cX6_occurs 71 = .ok (.invokestatic 129, 3) := by decide +kernel
theorem dX6_occurs_74 : decode cX6_occurs 74 = .ok (.aload 6, 2) := by decide +kernel
theorem dX6_occurs_76 : decode cX6_occurs 76 = .ok (.invokevirtual 168, 3) := by decide +kernel
theorem dX6_occurs_79 : decode cX6_occurs 79 = .ok (.if_icmp .ne 6, 3) := by decide +kernel
theorem dX6_occurs_82 : decode cX6_occurs 82 = .ok (.iinc 7 1, 3) := by decide +kernel
theorem dX6_occurs_85 : decode cX6_occurs 85 = .ok (.iinc 8 1, 3) := by decide +kernel
theorem dX6_occurs_88 : decode cX6_occurs 88 = .ok (.goto (-54), 3) := by decide +kernel
theorem dX6_occurs_91 : decode cX6_occurs 91 = .ok (.iload 7, 2) := by decide +kernel
theorem dX6_occurs_93 : decode cX6_occurs 93 = .ok (.ireturn, 1) := by decide +kernel
theorem dX6_isPeriod_0 : decode cX6_isPeriod 0 = .ok (.aload_n 0, 1) := by decide +kernel
theorem dX6_isPeriod_1 : decode cX6_isPeriod 1 = .ok (.iload_n 1, 1) := by decide +kernel
theorem dX6_isPeriod_2 : decode cX6_isPeriod 2 = .ok (.invokestatic 34, 3) := by decide +kernel
theorem dX6_isPeriod_5 : decode cX6_isPeriod 5 = .ok (.iload_n 2, 1) := by decide +kernel
theorem dX6_isPeriod_6 : decode cX6_isPeriod 6 = .ok (.invokevirtual 42, 3) := by decide +kernel
theorem dX6_isPeriod_9 : decode cX6_isPeriod 9 = .ok (.astore 4, 2) := by decide +kernel
theorem dX6_isPeriod_11 : decode cX6_isPeriod 11 = .ok (.iload_n 3, 1) := by decide +kernel
theorem dX6_isPeriod_12 : decode cX6_isPeriod 12 = .ok (.iconst 1, 1) := by decide +kernel
theorem dX6_isPeriod_13 : decode cX6_isPeriod 13 = .ok (.if_icmp .lt 12, 3) := by decide +kernel
theorem dX6_isPeriod_16 : decode cX6_isPeriod 16 = .ok (.iload_n 3, 1) := by decide +kernel
theorem dX6_isPeriod_17 : decode cX6_isPeriod 17 = .ok (.aload 4, 2) := by decide +kernel
theorem dX6_isPeriod_19 : decode cX6_isPeriod 19 = .ok (.getfield 46, 3) := by decide +kernel
theorem dX6_isPeriod_22 : decode cX6_isPeriod 22 = .ok (.if_icmp .le 13, 3) := by decide +kernel
theorem dX6_isPeriod_25 : decode cX6_isPeriod 25 = .ok (.new 72, 3) := by decide +kernel
theorem dX6_isPeriod_28 : decode cX6_isPeriod 28 = .ok (.dup, 1) := by decide +kernel
theorem dX6_isPeriod_29 : decode cX6_isPeriod 29 = .ok (.ldc 170, 2) := by decide +kernel
theorem dX6_isPeriod_31 : decode cX6_isPeriod 31 = .ok (.invokespecial 76, 3) := by decide +kernel
theorem dX6_isPeriod_34 : decode cX6_isPeriod 34 = .ok (.athrow, 1) := by decide +kernel
theorem dX6_isPeriod_35 : decode cX6_isPeriod 35 = .ok (.aload 4, 2) := by decide +kernel
theorem dX6_isPeriod_37 : decode cX6_isPeriod 37 = .ok (.iload_n 3, 1) := by decide +kernel
theorem dX6_isPeriod_38 : decode cX6_isPeriod 38 = .ok (.invokevirtual 172, 3) := by decide +kernel
theorem dX6_isPeriod_41 : decode cX6_isPeriod 41 = .ok (.ireturn, 1) := by decide +kernel
theorem dX6_period_0 : decode cX6_period 0 = .ok (.aload_n 0, 1) := by decide +kernel
theorem dX6_period_1 : decode cX6_period 1 = .ok (.iload_n 1, 1) := by decide +kernel
theorem dX6_period_2 : decode cX6_period 2 = .ok (.invokestatic 34, 3) := by decide +kernel
theorem dX6_period_5 : decode cX6_period 5 = .ok (.iload_n 2, 1) := by decide +kernel
theorem dX6_period_6 : decode cX6_period 6 = .ok (.invokevirtual 42, 3) := by decide +kernel
theorem dX6_period_9 : decode cX6_period 9 = .ok (.astore_n 3, 1) := by decide +kernel
theorem dX6_period_10 : decode cX6_period 10 = .ok (.iconst 1, 1) := by decide +kernel
theorem dX6_period_11 : decode cX6_period 11 = .ok (.istore 4, 2) := by decide +kernel
theorem dX6_period_13 : decode cX6_period 13 = .ok (.iload 4, 2) := by decide +kernel
theorem dX6_period_15 : decode cX6_period 15 = .ok (.aload_n 3, 1) := by decide +kernel
theorem dX6_period_16 : decode cX6_period 16 = .ok (.getfield 46, 3) := by decide +kernel
theorem dX6_period_19 : decode cX6_period 19 = .ok (.if_icmp .ge 21, 3) := by decide +kernel
theorem dX6_period_22 : decode cX6_period 22 = .ok (.aload_n 3, 1) := by decide +kernel
theorem dX6_period_23 : decode cX6_period 23 = .ok (.iload 4, 2) := by decide +kernel
theorem dX6_period_25 : decode cX6_period 25 = .ok (.invokevirtual 172, 3) := by decide +kernel
theorem dX6_period_28 : decode cX6_period 28 = .ok (.ifCond .eq 6, 3) := by decide +kernel
theorem dX6_period_31 : decode cX6_period 31 = .ok (.iload 4, 2) := by decide +kernel
theorem dX6_period_33 : decode cX6_period 33 = .ok (.ireturn, 1) := by decide +kernel
theorem dX6_period_34 : decode cX6_period 34 = .ok (.iinc 4 1, 3) := by decide +kernel
theorem dX6_period_37 : decode cX6_period 37 = .ok (.goto (-24), 3) := by decide +kernel
theorem dX6_period_40 : decode cX6_period 40 = .ok (.aload_n 3, 1) := by decide +kernel
theorem dX6_period_41 : decode cX6_period 41 = .ok (.getfield 46, 3) := by decide +kernel
theorem dX6_period_44 : decode cX6_period 44 = .ok (.ireturn, 1) := by decide +kernel
theorem dX6_root_0 : decode cX6_root 0 = .ok (.aload_n 0, 1) := by decide +kernel
theorem dX6_root_1 : decode cX6_root 1 = .ok (.iload_n 1, 1) := by decide +kernel
theorem dX6_root_2 : decode cX6_root 2 = .ok (.invokestatic 34, 3) := by decide +kernel
theorem dX6_root_5 : decode cX6_root 5 = .ok (.iload_n 2, 1) := by decide +kernel
theorem dX6_root_6 : decode cX6_root 6 = .ok (.invokevirtual 42, 3) := by decide +kernel
theorem dX6_root_9 : decode cX6_root 9 = .ok (.astore_n 3, 1) := by decide +kernel
theorem dX6_root_10 : decode cX6_root 10 = .ok (.iconst 1, 1) := by decide +kernel
theorem dX6_root_11 : decode cX6_root 11 = .ok (.istore 4, 2) := by decide +kernel
theorem dX6_root_13 : decode cX6_root 13 = .ok (.iload 4, 2) := by decide +kernel
theorem dX6_root_15 : decode cX6_root 15 = .ok (.aload_n 3, 1) := by decide +kernel
theorem dX6_root_16 : decode cX6_root 16 = .ok (.getfield 46, 3) := by decide +kernel
theorem dX6_root_19 : decode cX6_root 19 = .ok (.if_icmp .ge 31, 3) := by decide +kernel
theorem dX6_root_22 : decode cX6_root 22 = .ok (.aload_n 3, 1) := by decide +kernel
theorem dX6_root_23 : decode cX6_root 23 = .ok (.getfield 46, 3) := by decide +kernel
theorem dX6_root_26 : decode cX6_root 26 = .ok (.iload 4, 2) := by decide +kernel
theorem dX6_root_28 : decode cX6_root 28 = .ok (.irem, 1) := by decide +kernel
theorem dX6_root_29 : decode cX6_root 29 = .ok (.ifCond .ne 15, 3) := by decide +kernel
theorem dX6_root_32 : decode cX6_root 32 = .ok (.aload_n 3, 1) := by decide +kernel
theorem dX6_root_33 : decode cX6_root 33 = .ok (.iload 4, 2) := by decide +kernel
theorem dX6_root_35 : decode cX6_root 35 = .ok (.invokevirtual 172, 3) := by decide +kernel
theorem dX6_root_38 : decode cX6_root 38 = .ok (.ifCond .eq 6, 3) := by decide +kernel
theorem dX6_root_41 : decode cX6_root 41 = .ok (.iload 4, 2) := by decide +kernel
theorem dX6_root_43 : decode cX6_root 43 = .ok (.ireturn, 1) := by decide +kernel
theorem dX6_root_44 : decode cX6_root 44 = .ok (.iinc 4 1, 3) := by decide +kernel
theorem dX6_root_47 : decode cX6_root 47 = .ok (.goto (-34), 3) := by decide +kernel
theorem dX6_root_50 : decode cX6_root 50 = .ok (.aload_n 3, 1) := by decide +kernel
theorem dX6_root_51 : decode cX6_root 51 = .ok (.getfield 46, 3) := by decide +kernel
theorem dX6_root_54 : decode cX6_root 54 = .ok (.ireturn, 1) := by decide +kernel
theorem dX6_rotation_0 : decode cX6_rotation 0 = .ok (.iload_n 1, 1) := by decide +kernel
theorem dX6_rotation_1 : decode cX6_rotation 1 = .ok (.invokestatic 34, 3) := by decide +kernel
theorem dX6_rotation_4 : decode cX6_rotation 4 = .ok (.istore 4, 2) := by decide +kernel
theorem dX6_rotation_6 : decode cX6_rotation 6 = .ok (.iload_n 2, 1) := by decide +kernel
theorem dX6_rotation_7 : decode cX6_rotation 7 = .ok (.invokestatic 133, 3) := by decide +kernel
theorem dX6_rotation_10 : decode cX6_rotation 10 = .ok (.istore 5, 2) := by decide +kernel
theorem dX6_rotation_12 : decode cX6_rotation 12 = .ok (.aload_n 0, 1) := by decide +kernel
theorem dX6_rotation_13 : decode cX6_rotation 13 = .ok (.iload 4, 2) := by decide +kernel
theorem dX6_rotation_15 : decode cX6_rotation 15 = .ok (.iload_n 3, 1) := by decide +kernel
theorem dX6_rotation_16 : decode cX6_rotation 16 = .ok (.invokevirtual 42, 3) := by decide +kernel
theorem dX6_rotation_19 : decode cX6_rotation 19 = .ok (.astore 6, 2) := by decide +kernel
theorem dX6_rotation_21 : decode cX6_rotation 21 = .ok (.aload 6, 2) := by decide +kernel
theorem dX6_rotation_23 : decode cX6_rotation 23 = .ok (.getfield 46, 3) := by decide +kernel
theorem dX6_rotation_26 : decode cX6_rotation 26 = .ok (.ifCond .ne 5, 3) := by decide +kernel
theorem dX6_rotation_29 : decode cX6_rotation 29 = .ok (.iconst (-1), 1) := by decide +kernel
theorem dX6_rotation_30 : decode cX6_rotation 30 = .ok (.ireturn, 1) := by decide +kernel
theorem dX6_rotation_31 : decode cX6_rotation 31 = .ok (.iconst 0, 1) := by decide +kernel
theorem dX6_rotation_32 : decode cX6_rotation 32 = .ok (.istore 7, 2) := by decide +kernel
theorem dX6_rotation_34 : decode cX6_rotation 34 = .ok (.iconst 1, 1) := by decide +kernel
theorem dX6_rotation_35 : decode cX6_rotation 35 = .ok (.istore 8, 2) := by decide +kernel
theorem dX6_rotation_37 : decode cX6_rotation 37 = .ok (.iload 8, 2) := by decide +kernel
theorem dX6_rotation_39 : decode cX6_rotation 39 = .ok (.aload 6, 2) := by decide +kernel
theorem dX6_rotation_41 : decode cX6_rotation 41 = .ok (.getfield 46, 3) := by decide +kernel
theorem dX6_rotation_44 : decode cX6_rotation 44 = .ok (.if_icmp .ge 27, 3) := by decide +kernel
theorem dX6_rotation_47 : decode cX6_rotation 47 = .ok (.aload 6, 2) := by decide +kernel
theorem dX6_rotation_49 : decode cX6_rotation 49 = .ok (.iload 8, 2) := by decide +kernel
theorem dX6_rotation_51 : decode cX6_rotation 51 = .ok (.iload 7, 2) := by decide +kernel
theorem dX6_rotation_53 : decode cX6_rotation 53 = .ok (.iload 5, 2) := by decide +kernel
theorem dX6_rotation_55 : decode cX6_rotation 55 = .ok (.invokevirtual 176, 3) := by decide +kernel
theorem dX6_rotation_58 : decode cX6_rotation 58 = .ok (.ifCond .ge 7, 3) := by decide +kernel
theorem dX6_rotation_61 : decode cX6_rotation 61 = .ok (.iload 8, 2) := by decide +kernel
theorem dX6_rotation_63 : decode cX6_rotation 63 = .ok (.istore 7, 2) := by decide +kernel
theorem dX6_rotation_65 : decode cX6_rotation 65 = .ok (.iinc 8 1, 3) := by decide +kernel
theorem dX6_rotation_68 : decode cX6_rotation 68 = .ok (.goto (-31), 3) := by decide +kernel
theorem dX6_rotation_71 : decode cX6_rotation 71 = .ok (.iload 7, 2) := by decide +kernel
theorem dX6_rotation_73 : decode cX6_rotation 73 = .ok (.ireturn, 1) := by decide +kernel
theorem dX6_factors_0 : decode cX6_factors 0 = .ok (.iload_n 1, 1) := by decide +kernel
theorem dX6_factors_1 : decode cX6_factors 1 = .ok (.invokestatic 34, 3) := by decide +kernel
theorem dX6_factors_4 : decode cX6_factors 4 = .ok (.istore 4, 2) := by decide +kernel
theorem dX6_factors_6 : decode cX6_factors 6 = .ok (.iload_n 2, 1) := by decide +kernel
theorem dX6_factors_7 : decode cX6_factors 7 = .ok (.invokestatic 133, 3) := by decide +kernel
theorem dX6_factors_10 : decode cX6_factors 10 = .ok (.istore 5, 2) := by decide +kernel
theorem dX6_factors_12 : decode cX6_factors 12 = .ok (.aload_n 0, 1) := by decide +kernel
theorem dX6_factors_13 : decode cX6_factors 13 = .ok (.getfield 28, 3) := by decide +kernel
theorem dX6_factors_16 : decode cX6_factors 16 = .ok (.aload_n 0, 1) := by decide +kernel
theorem dX6_factors_17 : decode cX6_factors 17 = .ok (.iload 4, 2) := by decide +kernel
theorem dX6_factors_19 : decode cX6_factors 19 = .ok (.iload_n 3, 1) := by decide +kernel
theorem dX6_factors_20 : decode cX6_factors 20 = .ok (.invokevirtual 42, 3) := by decide +kernel
theorem dX6_factors_23 : decode cX6_factors 23 = .ok (.iload 5, 2) := by decide +kernel
theorem dX6_factors_25 : decode cX6_factors 25 = .ok (.invokevirtual 151, 3) := by decide +kernel
theorem dX6_factors_28 : decode cX6_factors 28 = .ok (.aload_n 0, 1) := by decide +kernel
theorem dX6_factors_29 : decode cX6_factors 29 = .ok (.getfield 28, 3) := by decide +kernel
theorem dX6_factors_32 : decode cX6_factors 32 = .ok (.invokevirtual 180, 3) := by decide +kernel
theorem dX6_factors_35 : decode cX6_factors 35 = .ok (.aload_n 0, 1) := by decide +kernel
theorem dX6_factors_36 : decode cX6_factors 36 = .ok (.getfield 28, 3) := by decide +kernel
theorem dX6_factors_39 : decode cX6_factors 39 = .ok (.getfield 183, 3) := by decide +kernel
theorem dX6_factors_42 : decode cX6_factors 42 = .ok (.ireturn, 1) := by decide +kernel
theorem dX6_factor_0 : decode cX6_factor 0 = .ok (.iload_n 1, 1) := by decide +kernel
theorem dX6_factor_1 : decode cX6_factor 1 = .ok (.invokestatic 34, 3) := by decide +kernel
theorem dX6_factor_4 : decode cX6_factor 4 = .ok (.istore 5, 2) := by decide +kernel
theorem dX6_factor_6 : decode cX6_factor 6 = .ok (.iload_n 2, 1) := by decide +kernel
theorem dX6_factor_7 : decode cX6_factor 7 = .ok (.invokestatic 133, 3) := by decide +kernel
theorem dX6_factor_10 : decode cX6_factor 10 = .ok (.istore 6, 2) := by decide +kernel
theorem dX6_factor_12 : decode cX6_factor 12 = .ok (.aload_n 0, 1) := by decide +kernel
theorem dX6_factor_13 : decode cX6_factor 13 = .ok (.getfield 28, 3) := by decide +kernel
theorem dX6_factor_16 : decode cX6_factor 16 = .ok (.aload_n 0, 1) := by decide +kernel
theorem dX6_factor_17 : decode cX6_factor 17 = .ok (.iload 5, 2) := by decide +kernel
theorem dX6_factor_19 : decode cX6_factor 19 = .ok (.iload_n 3, 1) := by decide +kernel
theorem dX6_factor_20 : decode cX6_factor 20 = .ok (.invokevirtual 42, 3) := by decide +kernel
theorem dX6_factor_23 : decode cX6_factor 23 = .ok (.iload 6, 2) := by decide +kernel
theorem dX6_factor_25 : decode cX6_factor 25 = .ok (.invokevirtual 151, 3) := by decide +kernel
theorem dX6_factor_28 : decode cX6_factor 28 = .ok (.aload_n 0, 1) := by decide +kernel
theorem dX6_factor_29 : decode cX6_factor 29 = .ok (.getfield 28, 3) := by decide +kernel
theorem dX6_factor_32 : decode cX6_factor 32 = .ok (.invokevirtual 180, 3) := by decide +kernel
theorem dX6_factor_35 : decode cX6_factor 35 = .ok (.iload 4, 2) := by decide +kernel
theorem dX6_factor_37 : decode cX6_factor 37 = .ok (.aload_n 0, 1) := by decide +kernel
theorem dX6_factor_38 : decode cX6_factor 38 = .ok (.getfield 28, 3) := by decide +kernel
theorem dX6_factor_41 : decode cX6_factor 41 = .ok (.getfield 183, 3) := by decide +kernel
theorem dX6_factor_44 : decode cX6_factor 44 = .ok (.invokestatic 61, 3) := by decide +kernel
theorem dX6_factor_47 : decode cX6_factor 47 = .ok (.aload_n 0, 1) := by decide +kernel
theorem dX6_factor_48 : decode cX6_factor 48 = .ok (.getfield 28, 3) := by decide +kernel
theorem dX6_factor_51 : decode cX6_factor 51 = .ok (.getfield 186, 3) := by decide +kernel
theorem dX6_factor_54 : decode cX6_factor 54 = .ok (.iload 4, 2) := by decide +kernel
theorem dX6_factor_56 : decode cX6_factor 56 = .ok (.iaload, 1) := by decide +kernel
theorem dX6_factor_57 : decode cX6_factor 57 = .ok (.ireturn, 1) := by decide +kernel
theorem dX6_share_0 : decode cX6_share 0 = .ok (.iload_n 1, 1) := by decide +kernel
theorem dX6_share_1 : decode cX6_share 1 = .ok (.invokestatic 34, 3) := by decide +kernel
theorem dX6_share_4 : decode cX6_share 4 = .ok (.istore_n 2, 1) := by decide +kernel
theorem dX6_share_5 : decode cX6_share 5 = .ok (.iconst 0, 1) := by decide +kernel
theorem dX6_share_6 : decode cX6_share 6 = .ok (.istore_n 3, 1) := by decide +kernel
theorem dX6_share_7 : decode cX6_share 7 = .ok (.iconst 0, 1) := by decide +kernel
theorem dX6_share_8 : decode cX6_share 8 = .ok (.istore 4, 2) := by decide +kernel
theorem dX6_share_10 : decode cX6_share 10 = .ok (.iconst 0, 1) := by decide +kernel
theorem dX6_share_11 : decode cX6_share 11 = .ok (.istore 5, 2) := by decide +kernel
theorem dX6_share_13 : decode cX6_share 13 = .ok (.iload 5, 2) := by decide +kernel
theorem dX6_share_15 : decode cX6_share 15 = .ok (.bipush 12, 2) := by decide +kernel
theorem dX6_share_17 : decode cX6_share 17 = .ok (.if_icmp .ge 46, 3) := by decide +kernel
theorem dX6_share_20 : decode cX6_share 20 = .ok (.aload_n 0, 1) := by decide +kernel
theorem dX6_share_21 : decode cX6_share 21 = .ok (.iload_n 2, 1) := by decide +kernel
theorem dX6_share_22 : decode cX6_share 22 = .ok (.aload_n 0, 1) := by decide +kernel
theorem dX6_share_23 : decode cX6_share 23 = .ok (.getfield 17, 3) := by decide +kernel
theorem dX6_share_26 : decode cX6_share 26 = .ok (.iload 5, 2) := by decide +kernel
theorem dX6_share_28 : decode cX6_share 28 = .ok (.aaload, 1) := by decide +kernel
theorem dX6_share_29 : decode cX6_share 29 = .ok (.invokevirtual 108, 3) := by decide +kernel
theorem dX6_share_32 : decode cX6_share 32 = .ok (.ifCond .eq 25, 3) := by decide +kernel
theorem dX6_share_35 : decode cX6_share 35 = .ok (.iload_n 3, 1) := by decide +kernel
theorem dX6_share_36 : decode cX6_share 36 = .ok (.aload_n 0, 1) := by decide +kernel
theorem dX6_share_37 : decode cX6_share 37 = .ok (.iload_n 2, 1) := by decide +kernel
theorem dX6_share_38 : decode cX6_share 38 = .ok (.iload 5, 2) := by decide +kernel
theorem dX6_share_40 : decode cX6_share 40 = .ok (.invokevirtual 189, 3) := by decide +kernel
theorem dX6_share_43 : decode cX6_share 43 = .ok (.iadd, 1) := by decide +kernel
theorem dX6_share_44 : decode cX6_share 44 = .ok (.istore_n 3, 1) := by decide +kernel
theorem dX6_share_45 : decode cX6_share 45 = .ok (.iload 4, 2) := by decide +kernel
theorem dX6_share_47 : decode cX6_share 47 = .ok (.aload_n 0, 1) := by decide +kernel
theorem dX6_share_48 : decode cX6_share 48 = .ok (.iload_n 2, 1) := by decide +kernel
theorem dX6_share_49 : decode cX6_share 49 = .ok (.iload 5, 2) := by decide +kernel
theorem dX6_share_51 : decode cX6_share 51 = .ok (.invokevirtual 193, 3) := by decide +kernel
theorem dX6_share_54 : decode cX6_share 54 = .ok (.iadd, 1) := by decide +kernel
theorem dX6_share_55 : decode cX6_share 55 = .ok (.istore 4, 2) := by decide +kernel
theorem dX6_share_57 : decode cX6_share 57 = .ok (.iinc 5 1, 3) := by decide +kernel
theorem dX6_share_60 : decode cX6_share 60 = .ok (.goto (-47), 3) := by decide +kernel
theorem dX6_share_63 : decode cX6_share 63 = .ok (.iload_n 3, 1) := by decide +kernel
theorem dX6_share_64 : decode cX6_share 64 = .ok (.ifCond .ne 13, 3) := by decide +kernel
theorem dX6_share_67 : decode cX6_share 67 = .ok (.new 50, 3) := by decide +kernel
theorem dX6_share_70 : decode cX6_share 70 = .ok (.dup, 1) := by decide +kernel
theorem dX6_share_71 : decode cX6_share 71 = .ok (.ldc 196, 2) := by decide +kernel
theorem dX6_share_73 : decode cX6_share 73 = .ok (.invokespecial 54, 3) := by decide +kernel
theorem dX6_share_76 : decode cX6_share 76 = .ok (.athrow, 1) := by decide +kernel
theorem dX6_share_77 : decode cX6_share 77 = .ok (.iload 4, 2) := by decide +kernel
theorem dX6_share_79 : decode cX6_share 79 = .ok (.i2f, 1) := by decide +kernel
theorem dX6_share_80 : decode cX6_share 80 = .ok (.iload_n 3, 1) := by decide +kernel
theorem dX6_share_81 : decode cX6_share 81 = .ok (.i2f, 1) := by decide +kernel
theorem dX6_share_82 : decode cX6_share 82 = .ok (.fdiv, 1) := by decide +kernel
theorem dX6_share_83 : decode cX6_share 83 = .ok (.freturn, 1) := by decide +kernel
theorem dX6_mean_0 : decode cX6_mean 0 = .ok (.iload_n 1, 1) := by decide +kernel
theorem dX6_mean_1 : decode cX6_mean 1 = .ok (.invokestatic 34, 3) := by decide +kernel
theorem dX6_mean_4 : decode cX6_mean 4 = .ok (.istore_n 2, 1) := by decide +kernel
theorem dX6_mean_5 : decode cX6_mean 5 = .ok (.iconst 0, 1) := by decide +kernel
theorem dX6_mean_6 : decode cX6_mean 6 = .ok (.istore_n 3, 1) := by decide +kernel
theorem dX6_mean_7 : decode cX6_mean 7 = .ok (.iconst 0, 1) := by decide +kernel
theorem dX6_mean_8 : decode cX6_mean 8 = .ok (.istore 4, 2) := by decide +kernel
theorem dX6_mean_10 : decode cX6_mean 10 = .ok (.iload 4, 2) := by decide +kernel
theorem dX6_mean_12 : decode cX6_mean 12 = .ok (.iconst 4, 1) := by decide +kernel
theorem dX6_mean_13 : decode cX6_mean 13 = .ok (.if_icmp .ge 26, 3) := by decide +kernel
theorem dX6_mean_16 : decode cX6_mean 16 = .ok (.iload_n 3, 1) := by decide +kernel
theorem dX6_mean_17 : decode cX6_mean 17 = .ok (.aload_n 0, 1) := by decide +kernel
theorem dX6_mean_18 : decode cX6_mean 18 = .ok (.getfield 11, 3) := by decide +kernel
theorem dX6_mean_21 : decode cX6_mean 21 = .ok (.iload_n 2, 1) := by decide +kernel
theorem dX6_mean_22 : decode cX6_mean 22 = .ok (.iconst 4, 1) := by decide +kernel
theorem dX6_mean_23 : decode cX6_mean 23 = .ok (.imul, 1) := by decide +kernel
theorem dX6_mean_24 : decode cX6_mean 24 = .ok (.iload 4, 2) := by decide +kernel
theorem dX6_mean_26 : decode cX6_mean 26 = .ok (.iadd, 1) := by decide +kernel
theorem dX6_mean_27 : decode cX6_mean 27 = .ok (.aaload, 1) := by decide +kernel
theorem dX6_mean_28 : decode cX6_mean 28 = .ok (.getfield 46, 3) := by decide +kernel
theorem dX6_mean_31 : decode cX6_mean 31 = .ok (.iadd, 1) := by decide +kernel
theorem dX6_mean_32 : decode cX6_mean 32 = .ok (.istore_n 3, 1) := by decide +kernel
theorem dX6_mean_33 : decode cX6_mean 33 = .ok (.iinc 4 1, 3) := by decide +kernel
theorem dX6_mean_36 : decode cX6_mean 36 = .ok (.goto (-26), 3) := by decide +kernel
theorem dX6_mean_39 : decode cX6_mean 39 = .ok (.iload_n 3, 1) := by decide +kernel
theorem dX6_mean_40 : decode cX6_mean 40 = .ok (.i2d, 1) := by decide +kernel
theorem dX6_mean_41 : decode cX6_mean 41 = .ok (.ldc2_w 198, 3) := by decide +kernel
theorem dX6_mean_44 : decode cX6_mean 44 = .ok (.ddiv, 1) := by decide +kernel
theorem dX6_mean_45 : decode cX6_mean 45 = .ok (.dreturn, 1) := by decide +kernel
theorem dX6_checksum_0 : decode cX6_checksum 0 = .ok (.ldc2_w 200, 3) := by decide +kernel
theorem dX6_checksum_3 : decode cX6_checksum 3 = .ok (.lstore_n 1, 1) := by decide +kernel
theorem dX6_checksum_4 : decode cX6_checksum 4 = .ok (.aload_n 0, 1) := by decide +kernel
theorem dX6_checksum_5 : decode cX6_checksum 5 = .ok (.getfield 11, 3) := by decide +kernel
theorem dX6_checksum_8 : decode cX6_checksum 8 = .ok (.astore_n 3, 1) := by decide +kernel
theorem dX6_checksum_9 : decode cX6_checksum 9 = .ok (.aload_n 3, 1) := by decide +kernel
theorem dX6_checksum_10 : decode cX6_checksum 10 = .ok (.arraylength, 1) := by decide +kernel
theorem dX6_checksum_11 : decode cX6_checksum 11 = .ok (.istore 4, 2) := by decide +kernel
theorem dX6_checksum_13 : decode cX6_checksum 13 = .ok (.iconst 0, 1) := by decide +kernel
theorem dX6_checksum_14 : decode cX6_checksum 14 = .ok (.istore 5, 2) := by decide +kernel
theorem dX6_checksum_16 : decode cX6_checksum 16 = .ok (.iload 5, 2) := by decide +kernel
theorem dX6_checksum_18 : decode cX6_checksum 18 = .ok (.iload 4, 2) := by decide +kernel
theorem dX6_checksum_20 : decode cX6_checksum 20 = .ok (.if_icmp .ge 62, 3) := by decide +kernel
theorem dX6_checksum_23 : decode cX6_checksum 23 = .ok (.aload_n 3, 1) := by decide +kernel
theorem dX6_checksum_24 : decode cX6_checksum 24 = .ok (.iload 5, 2) := by decide +kernel
theorem dX6_checksum_26 : decode cX6_checksum 26 = .ok (.aaload, 1) := by decide +kernel
theorem dX6_checksum_27 : decode cX6_checksum 27 = .ok (.astore 6, 2) := by decide +kernel
theorem dX6_checksum_29 : decode cX6_checksum 29 = .ok (.ldc2_w 202, 3) := by decide +kernel
theorem dX6_checksum_32 : decode cX6_checksum 32 = .ok (.lload_n 1, 1) := by decide +kernel
theorem dX6_checksum_33 : decode cX6_checksum 33 = .ok (.lmul, 1) := by decide +kernel
theorem dX6_checksum_34 : decode cX6_checksum 34 = .ok (.aload 6, 2) := by decide +kernel
theorem dX6_checksum_36 : decode cX6_checksum 36 = .ok (.getfield 46, 3) := by decide +kernel
theorem dX6_checksum_39 : decode cX6_checksum 39 = .ok (.i2l, 1) := by decide +kernel
theorem dX6_checksum_40 : decode cX6_checksum 40 = .ok (.ladd, 1) := by decide +kernel
theorem dX6_checksum_41 : decode cX6_checksum 41 = .ok (.lstore_n 1, 1) := by decide +kernel
theorem dX6_checksum_42 : decode cX6_checksum 42 = .ok (.iconst 0, 1) := by decide +kernel
theorem dX6_checksum_43 : decode cX6_checksum 43 = .ok (.istore 7, 2) := by decide +kernel
theorem dX6_checksum_45 : decode cX6_checksum 45 = .ok (.iload 7, 2) := by decide +kernel
theorem dX6_checksum_47 : decode cX6_checksum 47 = .ok (.aload 6, 2) := by decide +kernel
theorem dX6_checksum_49 : decode cX6_checksum 49 = .ok (.getfield 46, 3) := by decide +kernel
theorem dX6_checksum_52 : decode cX6_checksum 52 = .ok (.if_icmp .ge 24, 3) := by decide +kernel
theorem dX6_checksum_55 : decode cX6_checksum 55 = .ok (.ldc2_w 202, 3) := by decide +kernel
theorem dX6_checksum_58 : decode cX6_checksum 58 = .ok (.lload_n 1, 1) := by decide +kernel
theorem dX6_checksum_59 : decode cX6_checksum 59 = .ok (.lmul, 1) := by decide +kernel
theorem dX6_checksum_60 : decode cX6_checksum 60 = .ok (.aload 6, 2) := by decide +kernel
theorem dX6_checksum_62 : decode cX6_checksum 62 = .ok (.getfield 57, 3) := by decide +kernel
theorem dX6_checksum_65 : decode cX6_checksum 65 = .ok (.iload 7, 2) := by decide +kernel
theorem dX6_checksum_67 : decode cX6_checksum 67 = .ok (.laload, 1) := by decide +kernel
theorem dX6_checksum_68 : decode cX6_checksum 68 = .ok (.ladd, 1) := by decide +kernel
theorem dX6_checksum_69 : decode cX6_checksum 69 = .ok (.lstore_n 1, 1) := by decide +kernel
theorem dX6_checksum_70 : decode cX6_checksum 70 = .ok (.iinc 7 1, 3) := by decide +kernel
theorem dX6_checksum_73 : decode cX6_checksum 73 = .ok (.goto (-28), 3) := by decide +kernel
theorem dX6_checksum_76 : decode cX6_checksum 76 = .ok (.iinc 5 1, 3) := by decide +kernel
theorem dX6_checksum_79 : decode cX6_checksum 79 = .ok (.goto (-63), 3) := by decide +kernel
theorem dX6_checksum_82 : decode cX6_checksum 82 = .ok (.aload_n 0, 1) := by decide +kernel
theorem dX6_checksum_83 : decode cX6_checksum 83 = .ok (.getfield 17, 3) := by decide +kernel
theorem dX6_checksum_86 : decode cX6_checksum 86 = .ok (.astore_n 3, 1) := by decide +kernel
theorem dX6_checksum_87 : decode cX6_checksum 87 = .ok (.aload_n 3, 1) := by decide +kernel
theorem dX6_checksum_88 : decode cX6_checksum 88 = .ok (.arraylength, 1) := by decide +kernel
theorem dX6_checksum_89 : decode cX6_checksum 89 = .ok (.istore 4, 2) := by decide +kernel
theorem dX6_checksum_91 : decode cX6_checksum 91 = .ok (.iconst 0, 1) := by decide +kernel
theorem dX6_checksum_92 : decode cX6_checksum 92 = .ok (.istore 5, 2) := by decide +kernel
theorem dX6_checksum_94 : decode cX6_checksum 94 = .ok (.iload 5, 2) := by decide +kernel
theorem dX6_checksum_96 : decode cX6_checksum 96 = .ok (.iload 4, 2) := by decide +kernel
theorem dX6_checksum_98 : decode cX6_checksum 98 = .ok (.if_icmp .ge 54, 3) := by decide +kernel
theorem dX6_checksum_101 : decode cX6_checksum 101 = .ok (.aload_n 3, 1) := by decide +kernel
theorem dX6_checksum_102 : decode cX6_checksum 102 = .ok (.iload 5, 2) := by decide +kernel
theorem dX6_checksum_104 : decode cX6_checksum 104 = .ok (.aaload, 1) := by decide +kernel
theorem dX6_checksum_105 : decode cX6_checksum 105 = .ok (.astore 6, 2) := by decide +kernel
theorem dX6_checksum_107 : decode cX6_checksum 107 = .ok (.ldc2_w 202, 3) := by decide +kernel
theorem dX6_checksum_110 : decode cX6_checksum 110 = .ok (.lload_n 1, 1) := by decide +kernel
theorem dX6_checksum_111 : decode cX6_checksum 111 = .ok (.lmul, 1) := by decide +kernel
theorem dX6_checksum_112 : decode cX6_checksum 112 = .ok (.aload 6, 2) := by decide +kernel
theorem dX6_checksum_114 : decode cX6_checksum 114 = .ok (.getfield 97, 3) := by decide +kernel
theorem dX6_checksum_117 : decode cX6_checksum 117 = .ok (.i2l, 1) := by decide +kernel
theorem dX6_checksum_118 : decode cX6_checksum 118 = .ok (.ladd, 1) := by decide +kernel
theorem dX6_checksum_119 : decode cX6_checksum 119 = .ok (.lstore_n 1, 1) := by decide +kernel
theorem dX6_checksum_120 : decode cX6_checksum 120 = .ok (.ldc2_w 202, 3) := by decide +kernel
theorem dX6_checksum_123 : decode cX6_checksum 123 = .ok (.lload_n 1, 1) := by decide +kernel
theorem dX6_checksum_124 : decode cX6_checksum 124 = .ok (.lmul, 1) := by decide +kernel
theorem dX6_checksum_125 : decode cX6_checksum 125 = .ok (.aload 6, 2) := by decide +kernel
theorem dX6_checksum_127 : decode cX6_checksum 127 = .ok (.getfield 100, 3) := by decide +kernel
theorem dX6_checksum_130 : decode cX6_checksum 130 = .ok (.i2l, 1) := by decide +kernel
theorem dX6_checksum_131 : decode cX6_checksum 131 = .ok (.ladd, 1) := by decide +kernel
theorem dX6_checksum_132 : decode cX6_checksum 132 = .ok (.lstore_n 1, 1) := by decide +kernel
theorem dX6_checksum_133 : decode cX6_checksum 133 = .ok (.ldc2_w 202, 3) := by decide +kernel
theorem dX6_checksum_136 : decode cX6_checksum 136 = .ok (.lload_n 1, 1) := by decide +kernel
theorem dX6_checksum_137 : decode cX6_checksum 137 = .ok (.lmul, 1) := by decide +kernel
theorem dX6_checksum_138 : decode cX6_checksum 138 = .ok (.aload 6, 2) := by decide +kernel
theorem dX6_checksum_140 : decode cX6_checksum 140 = .ok (.getfield 103, 3) := by decide +kernel
theorem dX6_checksum_143 : decode cX6_checksum 143 = .ok (.i2l, 1) := by decide +kernel
theorem dX6_checksum_144 : decode cX6_checksum 144 = .ok (.ladd, 1) := by decide +kernel
theorem dX6_checksum_145 : decode cX6_checksum 145 = .ok (.lstore_n 1, 1) := by decide +kernel
theorem dX6_checksum_146 : decode cX6_checksum 146 = .ok (.iinc 5 1, 3) := by decide +kernel
theorem dX6_checksum_149 : decode cX6_checksum 149 = .ok (.goto (-55), 3) := by decide +kernel
theorem dX6_checksum_152 : decode cX6_checksum 152 = .ok (.ldc2_w 202, 3) := by decide +kernel
theorem dX6_checksum_155 : decode cX6_checksum 155 = .ok (.lload_n 1, 1) := by decide +kernel
theorem dX6_checksum_156 : decode cX6_checksum 156 = .ok (.lmul, 1) := by decide +kernel
theorem dX6_checksum_157 : decode cX6_checksum 157 = .ok (.aload_n 0, 1) := by decide +kernel
theorem dX6_checksum_158 : decode cX6_checksum 158 = .ok (.getfield 144, 3) := by decide +kernel
theorem dX6_checksum_161 : decode cX6_checksum 161 = .ok (.i2l, 1) := by decide +kernel
theorem dX6_checksum_162 : decode cX6_checksum 162 = .ok (.ladd, 1) := by decide +kernel
theorem dX6_checksum_163 : decode cX6_checksum 163 = .ok (.lstore_n 1, 1) := by decide +kernel
theorem dX6_checksum_164 : decode cX6_checksum 164 = .ok (.iconst 0, 1) := by decide +kernel
theorem dX6_checksum_165 : decode cX6_checksum 165 = .ok (.istore_n 3, 1) := by decide +kernel
theorem dX6_checksum_166 : decode cX6_checksum 166 = .ok (.iload_n 3, 1) := by decide +kernel
theorem dX6_checksum_167 : decode cX6_checksum 167 = .ok (.aload_n 0, 1) := by decide +kernel
theorem dX6_checksum_168 : decode cX6_checksum 168 = .ok (.getfield 144, 3) := by decide +kernel
theorem dX6_checksum_171 : decode cX6_checksum 171 = .ok (.if_icmp .ge 23, 3) := by decide +kernel
theorem dX6_checksum_174 : decode cX6_checksum 174 = .ok (.ldc2_w 202, 3) := by decide +kernel
theorem dX6_checksum_177 : decode cX6_checksum 177 = .ok (.lload_n 1, 1) := by decide +kernel
theorem dX6_checksum_178 : decode cX6_checksum 178 = .ok (.lmul, 1) := by decide +kernel
theorem dX6_checksum_179 : decode cX6_checksum 179 = .ok (.aload_n 0, 1) := by decide +kernel
theorem dX6_checksum_180 : decode cX6_checksum 180 = .ok (.getfield 21, 3) := by decide +kernel
theorem dX6_checksum_183 : decode cX6_checksum 183 = .ok (.iload_n 3, 1) := by decide +kernel
theorem dX6_checksum_184 : decode cX6_checksum 184 = .ok (.iaload, 1) := by decide +kernel
theorem dX6_checksum_185 : decode cX6_checksum 185 = .ok (.i2l, 1) := by decide +kernel
theorem dX6_checksum_186 : decode cX6_checksum 186 = .ok (.ladd, 1) := by decide +kernel
theorem dX6_checksum_187 : decode cX6_checksum 187 = .ok (.lstore_n 1, 1) := by decide +kernel
theorem dX6_checksum_188 : decode cX6_checksum 188 = .ok (.iinc 3 1, 3) := by decide +kernel
theorem dX6_checksum_191 : decode cX6_checksum 191 = .ok (.goto (-25), 3) := by decide +kernel
theorem dX6_checksum_194 : decode cX6_checksum 194 = .ok (.lload_n 1, 1) := by decide +kernel
theorem dX6_checksum_195 : decode cX6_checksum 195 = .ok (.lreturn, 1) := by decide +kernel
theorem dX6_isTrue_0 : decode cX6_isTrue 0 = .ok (.iload_n 1, 1) := by decide +kernel
theorem dX6_isTrue_1 : decode cX6_isTrue 1 = .ok (.invokestatic 34, 3) := by decide +kernel
theorem dX6_isTrue_4 : decode cX6_isTrue 4 = .ok (.istore 5, 2) := by decide +kernel
theorem dX6_isTrue_6 : decode cX6_isTrue 6 = .ok (.aload_n 0, 1) := by decide +kernel
theorem dX6_isTrue_7 : decode cX6_isTrue 7 = .ok (.iload_n 2, 1) := by decide +kernel
theorem dX6_isTrue_8 : decode cX6_isTrue 8 = .ok (.invokevirtual 89, 3) := by decide +kernel
theorem dX6_isTrue_11 : decode cX6_isTrue 11 = .ok (.astore 6, 2) := by decide +kernel
theorem dX6_isTrue_13 : decode cX6_isTrue 13 = .ok (.aload_n 0, 1) := by decide +kernel
theorem dX6_isTrue_14 : decode cX6_isTrue 14 = .ok (.iload_n 3, 1) := by decide +kernel
theorem dX6_isTrue_15 : decode cX6_isTrue 15 = .ok (.invokevirtual 89, 3) := by decide +kernel
theorem dX6_isTrue_18 : decode cX6_isTrue 18 = .ok (.astore 7, 2) := by decide +kernel
theorem dX6_isTrue_20 : decode cX6_isTrue 20 = .ok (.aload_n 0, 1) := by decide +kernel
theorem dX6_isTrue_21 : decode cX6_isTrue 21 = .ok (.iload 4, 2) := by decide +kernel
theorem dX6_isTrue_23 : decode cX6_isTrue 23 = .ok (.invokevirtual 89, 3) := by decide +kernel
theorem dX6_isTrue_26 : decode cX6_isTrue 26 = .ok (.astore 8, 2) := by decide +kernel
theorem dX6_isTrue_28 : decode cX6_isTrue 28 = .ok (.iconst 3, 1) := by decide +kernel
theorem dX6_isTrue_29 : decode cX6_isTrue 29 = .ok (.anewarray 124, 3) := by decide +kernel
theorem dX6_isTrue_32 : decode cX6_isTrue 32 = .ok (.dup, 1) := by decide +kernel
theorem dX6_isTrue_33 : decode cX6_isTrue 33 = .ok (.iconst 0, 1) := by decide +kernel
theorem dX6_isTrue_34 : decode cX6_isTrue 34 = .ok (.aload_n 0, 1) := by decide +kernel
theorem dX6_isTrue_35 : decode cX6_isTrue 35 = .ok (.iload 5, 2) := by decide +kernel
theorem dX6_isTrue_37 : decode cX6_isTrue 37 = .ok (.aload 6, 2) := by decide +kernel
theorem dX6_isTrue_39 : decode cX6_isTrue 39 = .ok (.invokevirtual 116, 3) := by decide +kernel
theorem dX6_isTrue_42 : decode cX6_isTrue 42 = .ok (.aastore, 1) := by decide +kernel
theorem dX6_isTrue_43 : decode cX6_isTrue 43 = .ok (.dup, 1) := by decide +kernel
theorem dX6_isTrue_44 : decode cX6_isTrue 44 = .ok (.iconst 1, 1) := by decide +kernel
theorem dX6_isTrue_45 : decode cX6_isTrue 45 = .ok (.aload_n 0, 1) := by decide +kernel
theorem dX6_isTrue_46 : decode cX6_isTrue 46 = .ok (.iload 5, 2) := by decide +kernel
theorem dX6_isTrue_48 : decode cX6_isTrue 48 = .ok (.aload 7, 2) := by decide +kernel
theorem dX6_isTrue_50 : decode cX6_isTrue 50 = .ok (.invokevirtual 116, 3) := by decide +kernel
theorem dX6_isTrue_53 : decode cX6_isTrue 53 = .ok (.aastore, 1) := by decide +kernel
theorem dX6_isTrue_54 : decode cX6_isTrue 54 = .ok (.dup, 1) := by decide +kernel
theorem dX6_isTrue_55 : decode cX6_isTrue 55 = .ok (.iconst 2, 1) := by decide +kernel
theorem dX6_isTrue_56 : decode cX6_isTrue 56 = .ok (.aload_n 0, 1) := by decide +kernel
theorem dX6_isTrue_57 : decode cX6_isTrue 57 = .ok (.iload 5, 2) := by decide +kernel
theorem dX6_isTrue_59 : decode cX6_isTrue 59 = .ok (.aload 8, 2) := by decide +kernel
theorem dX6_isTrue_61 : decode cX6_isTrue 61 = .ok (.invokevirtual 116, 3) := by decide +kernel
theorem dX6_isTrue_64 : decode cX6_isTrue 64 = .ok (.aastore, 1) := by decide +kernel
theorem dX6_isTrue_65 : decode cX6_isTrue 65 = .ok (.astore 9, 2) := by decide +kernel
theorem dX6_isTrue_67 : decode cX6_isTrue 67 = .ok (.iload 5, 2) := by decide +kernel
theorem dX6_isTrue_69 : decode cX6_isTrue 69 = .ok (.aload 9, 2) := by decide +kernel
theorem dX6_isTrue_71 : decode cX6_isTrue 71 = .ok (.invokestatic 204, 3) := by decide +kernel
theorem dX6_isTrue_74 : decode cX6_isTrue 74 = .ok (.ireturn, 1) := by decide +kernel
theorem dX6_rowIsTrue_0 : decode cX6_rowIsTrue 0 = .ok (.iload_n 1, 1) := by decide +kernel
theorem dX6_rowIsTrue_1 : decode cX6_rowIsTrue 1 = .ok (.invokestatic 34, 3) := by decide +kernel
theorem dX6_rowIsTrue_4 : decode cX6_rowIsTrue 4 = .ok (.istore 4, 2) := by decide +kernel
theorem dX6_rowIsTrue_6 : decode cX6_rowIsTrue 6 = .ok (.iload_n 2, 1) := by decide +kernel
theorem dX6_rowIsTrue_7 : decode cX6_rowIsTrue 7 = .ok (.invokestatic 133, 3) := by decide +kernel
theorem dX6_rowIsTrue_10 : decode cX6_rowIsTrue 10 = .ok (.istore 5, 2) := by decide +kernel
theorem dX6_rowIsTrue_12 : decode cX6_rowIsTrue 12 = .ok (.aload_n 0, 1) := by decide +kernel
theorem dX6_rowIsTrue_13 : decode cX6_rowIsTrue 13 = .ok (.iload 4, 2) := by decide +kernel
theorem dX6_rowIsTrue_15 : decode cX6_rowIsTrue 15 = .ok (.iload_n 3, 1) := by decide +kernel
theorem dX6_rowIsTrue_16 : decode cX6_rowIsTrue 16 = .ok (.invokevirtual 42, 3) := by decide +kernel
theorem dX6_rowIsTrue_19 : decode cX6_rowIsTrue 19 = .ok (.astore 6, 2) := by decide +kernel
theorem dX6_rowIsTrue_21 : decode cX6_rowIsTrue 21 = .ok (.aload_n 0, 1) := by decide +kernel
theorem dX6_rowIsTrue_22 : decode cX6_rowIsTrue 22 = .ok (.getfield 28, 3) := by decide +kernel
theorem dX6_rowIsTrue_25 : decode cX6_rowIsTrue 25 = .ok (.aload 6, 2) := by decide +kernel
theorem dX6_rowIsTrue_27 : decode cX6_rowIsTrue 27 = .ok (.iload 5, 2) := by decide +kernel
theorem dX6_rowIsTrue_29 : decode cX6_rowIsTrue 29 = .ok (.invokevirtual 151, 3) := by decide +kernel
theorem dX6_rowIsTrue_32 : decode cX6_rowIsTrue 32 = .ok (.aload_n 0, 1) := by decide +kernel
theorem dX6_rowIsTrue_33 : decode cX6_rowIsTrue 33 = .ok (.getfield 28, 3) := by decide +kernel
theorem dX6_rowIsTrue_36 : decode cX6_rowIsTrue 36 = .ok (.invokevirtual 155, 3) := by decide +kernel
theorem dX6_rowIsTrue_39 : decode cX6_rowIsTrue 39 = .ok (.aload_n 0, 1) := by decide +kernel
theorem dX6_rowIsTrue_40 : decode cX6_rowIsTrue 40 = .ok (.getfield 28, 3) := by decide +kernel
theorem dX6_rowIsTrue_43 : decode cX6_rowIsTrue 43 = .ok (.invokevirtual 180, 3) := by decide +kernel
theorem dX6_rowIsTrue_46 : decode cX6_rowIsTrue 46 = .ok (.aload_n 0, 1) := by decide +kernel
theorem dX6_rowIsTrue_47 : decode cX6_rowIsTrue 47 = .ok (.getfield 28, 3) := by decide +kernel
theorem dX6_rowIsTrue_50 : decode cX6_rowIsTrue 50 = .ok (.invokestatic 210, 3) := by decide +kernel
theorem dX6_rowIsTrue_53 : decode cX6_rowIsTrue 53 = .ok (.ifCond .eq 29, 3) := by decide +kernel
theorem dX6_rowIsTrue_56 : decode cX6_rowIsTrue 56 = .ok (.aload 6, 2) := by decide +kernel
theorem dX6_rowIsTrue_58 : decode cX6_rowIsTrue 58 = .ok (.aload_n 0, 1) := by decide +kernel
theorem dX6_rowIsTrue_59 : decode cX6_rowIsTrue 59 = .ok (.getfield 28, 3) := by decide +kernel
theorem dX6_rowIsTrue_62 : decode cX6_rowIsTrue 62 = .ok (.invokestatic 216, 3) := by decide +kernel
theorem dX6_rowIsTrue_65 : decode cX6_rowIsTrue 65 = .ok (.ifCond .eq 17, 3) := by decide +kernel
theorem dX6_rowIsTrue_68 : decode cX6_rowIsTrue 68 = .ok (.aload_n 0, 1) := by decide +kernel
theorem dX6_rowIsTrue_69 : decode cX6_rowIsTrue 69 = .ok (.getfield 28, 3) := by decide +kernel
theorem dX6_rowIsTrue_72 : decode cX6_rowIsTrue 72 = .ok (.invokestatic 220, 3) := by decide +kernel
theorem dX6_rowIsTrue_75 : decode cX6_rowIsTrue 75 = .ok (.ifCond .eq 7, 3) := by decide +kernel
theorem dX6_rowIsTrue_78 : decode cX6_rowIsTrue 78 = .ok (.iconst 1, 1) := by decide +kernel
theorem dX6_rowIsTrue_79 : decode cX6_rowIsTrue 79 = .ok (.goto 4, 3) := by decide +kernel
theorem dX6_rowIsTrue_82 : decode cX6_rowIsTrue 82 = .ok (.iconst 0, 1) := by decide +kernel
theorem dX6_rowIsTrue_83 : decode cX6_rowIsTrue 83 = .ok (.ireturn, 1) := by decide +kernel
theorem dX6_kindOf_0 : decode cX6_kindOf 0 = .ok (.iload_n 0, 1) := by decide +kernel
theorem dX6_kindOf_1 : decode cX6_kindOf 1 = .ok (.lookupswitch 51 #[(98, 43), (105, 47), (108, 49), (115, 45)], 43) := by decide +kernel
theorem dX6_kindOf_44 : decode cX6_kindOf 44 = .ok (.iconst 0, 1) := by decide +kernel
theorem dX6_kindOf_45 : decode cX6_kindOf 45 = .ok (.ireturn, 1) := by decide +kernel
theorem dX6_kindOf_46 : decode cX6_kindOf 46 = .ok (.iconst 1, 1) := by decide +kernel
theorem dX6_kindOf_47 : decode cX6_kindOf 47 = .ok (.ireturn, 1) := by decide +kernel
theorem dX6_kindOf_48 : decode cX6_kindOf 48 = .ok (.iconst 2, 1) := by decide +kernel
theorem dX6_kindOf_49 : decode cX6_kindOf 49 = .ok (.ireturn, 1) := by decide +kernel
theorem dX6_kindOf_50 : decode cX6_kindOf 50 = .ok (.iconst 3, 1) := by decide +kernel
theorem dX6_kindOf_51 : decode cX6_kindOf 51 = .ok (.ireturn, 1) := by decide +kernel
theorem dX6_kindOf_52 : decode cX6_kindOf 52 = .ok (.new 65, 3) := by decide +kernel
theorem dX6_kindOf_55 : decode cX6_kindOf 55 = .ok (.dup, 1) := by decide +kernel
theorem dX6_kindOf_56 : decode cX6_kindOf 56 = .ok (.ldc 223, 2) := by decide +kernel
theorem dX6_kindOf_58 : decode cX6_kindOf 58 = .ok (.invokespecial 69, 3) := by decide +kernel
theorem dX6_kindOf_61 : decode cX6_kindOf 61 = .ok (.athrow, 1) := by decide +kernel
theorem dX6_isUnsigned_0 : decode cX6_isUnsigned 0 = .ok (.iload_n 0, 1) := by decide +kernel
theorem dX6_isUnsigned_1 : decode cX6_isUnsigned 1 = .ok (.bipush 115, 2) := by decide +kernel
theorem dX6_isUnsigned_3 : decode cX6_isUnsigned 3 = .ok (.if_icmp .eq 19, 3) := by decide +kernel
theorem dX6_isUnsigned_6 : decode cX6_isUnsigned 6 = .ok (.iload_n 0, 1) := by decide +kernel
theorem dX6_isUnsigned_7 : decode cX6_isUnsigned 7 = .ok (.bipush 117, 2) := by decide +kernel
theorem dX6_isUnsigned_9 : decode cX6_isUnsigned 9 = .ok (.if_icmp .eq 13, 3) := by decide +kernel
theorem dX6_isUnsigned_12 : decode cX6_isUnsigned 12 = .ok (.new 65, 3) := by decide +kernel
theorem dX6_isUnsigned_15 : decode cX6_isUnsigned 15 = .ok (.dup, 1) := by decide +kernel
theorem dX6_isUnsigned_16 : decode cX6_isUnsigned 16 = .ok (.ldc 225, 2) := by decide +kernel
theorem dX6_isUnsigned_18 : decode cX6_isUnsigned 18 = .ok (.invokespecial 69, 3) := by decide +kernel
theorem dX6_isUnsigned_21 : decode cX6_isUnsigned 21 = .ok (.athrow, 1) := by decide +kernel
theorem dX6_isUnsigned_22 : decode cX6_isUnsigned 22 = .ok (.iload_n 0, 1) := by decide +kernel
theorem dX6_isUnsigned_23 : decode cX6_isUnsigned 23 = .ok (.bipush 117, 2) := by decide +kernel
theorem dX6_isUnsigned_25 : decode cX6_isUnsigned 25 = .ok (.if_icmp .ne 7, 3) := by decide +kernel
theorem dX6_isUnsigned_28 : decode cX6_isUnsigned 28 = .ok (.iconst 1, 1) := by decide +kernel
theorem dX6_isUnsigned_29 : decode cX6_isUnsigned 29 = .ok (.goto 4, 3) := by decide +kernel
theorem dX6_isUnsigned_32 : decode cX6_isUnsigned 32 = .ok (.iconst 0, 1) := by decide +kernel
theorem dX6_isUnsigned_33 : decode cX6_isUnsigned 33 = .ok (.ireturn, 1) := by decide +kernel
theorem dX6_wantQuestion_0 : decode cX6_wantQuestion 0 = .ok (.iload_n 0, 1) := by decide +kernel
theorem dX6_wantQuestion_1 : decode cX6_wantQuestion 1 = .ok (.bipush 101, 2) := by decide +kernel
theorem dX6_wantQuestion_3 : decode cX6_wantQuestion 3 = .ok (.if_icmp .eq 31, 3) := by decide +kernel
theorem dX6_wantQuestion_6 : decode cX6_wantQuestion 6 = .ok (.iload_n 0, 1) := by decide +kernel
theorem dX6_wantQuestion_7 : decode cX6_wantQuestion 7 = .ok (.bipush 99, 2) := by decide +kernel
theorem dX6_wantQuestion_9 : decode cX6_wantQuestion 9 = .ok (.if_icmp .eq 25, 3) := by decide +kernel
theorem dX6_wantQuestion_12 : decode cX6_wantQuestion 12 = .ok (.iload_n 0, 1) := by decide +kernel
theorem dX6_wantQuestion_13 : decode cX6_wantQuestion 13 = .ok (.bipush 117, 2) := by decide +kernel
theorem dX6_wantQuestion_15 : decode cX6_wantQuestion 15 = .ok (.if_icmp .eq 19, 3) := by decide +kernel
theorem dX6_wantQuestion_18 : decode cX6_wantQuestion 18 = .ok (.iload_n 0, 1) := by decide +kernel
theorem dX6_wantQuestion_19 : decode cX6_wantQuestion 19 = .ok (.bipush 109, 2) := by decide +kernel
theorem dX6_wantQuestion_21 : decode cX6_wantQuestion 21 = .ok (.if_icmp .eq 13, 3) := by decide +kernel
theorem dX6_wantQuestion_24 : decode cX6_wantQuestion 24 = .ok (.new 65, 3) := by decide +kernel
theorem dX6_wantQuestion_27 : decode cX6_wantQuestion 27 = .ok (.dup, 1) := by decide +kernel
theorem dX6_wantQuestion_28 : decode cX6_wantQuestion 28 = .ok (.ldc 227, 2) := by decide +kernel
theorem dX6_wantQuestion_30 : decode cX6_wantQuestion 30 = .ok (.invokespecial 69, 3) := by decide +kernel
theorem dX6_wantQuestion_33 : decode cX6_wantQuestion 33 = .ok (.athrow, 1) := by decide +kernel
theorem dX6_wantQuestion_34 : decode cX6_wantQuestion 34 = .ok (.return_, 1) := by decide +kernel
theorem dX6_wantNumber_0 : decode cX6_wantNumber 0 = .ok (.iload_n 0, 1) := by decide +kernel
theorem dX6_wantNumber_1 : decode cX6_wantNumber 1 = .ok (.lload_n 1, 1) := by decide +kernel
theorem dX6_wantNumber_2 : decode cX6_wantNumber 2 = .ok (.invokestatic 229, 3) := by decide +kernel
theorem dX6_wantNumber_5 : decode cX6_wantNumber 5 = .ok (.ifCond .ne 13, 3) := by decide +kernel
theorem dX6_wantNumber_8 : decode cX6_wantNumber 8 = .ok (.new 65, 3) := by decide +kernel
theorem dX6_wantNumber_11 : decode cX6_wantNumber 11 = .ok (.dup, 1) := by decide +kernel
theorem dX6_wantNumber_12 : decode cX6_wantNumber 12 = .ok (.ldc 233, 2) := by decide +kernel
theorem dX6_wantNumber_14 : decode cX6_wantNumber 14 = .ok (.invokespecial 69, 3) := by decide +kernel
theorem dX6_wantNumber_17 : decode cX6_wantNumber 17 = .ok (.athrow, 1) := by decide +kernel
theorem dX6_wantNumber_18 : decode cX6_wantNumber 18 = .ok (.return_, 1) := by decide +kernel
theorem dX6_wantRow_0 : decode cX6_wantRow 0 = .ok (.iload_n 0, 1) := by decide +kernel
theorem dX6_wantRow_1 : decode cX6_wantRow 1 = .ok (.ifCond .lt 8, 3) := by decide +kernel
theorem dX6_wantRow_4 : decode cX6_wantRow 4 = .ok (.iload_n 0, 1) := by decide +kernel
theorem dX6_wantRow_5 : decode cX6_wantRow 5 = .ok (.iconst 4, 1) := by decide +kernel
theorem dX6_wantRow_6 : decode cX6_wantRow 6 = .ok (.if_icmp .lt 13, 3) := by decide +kernel
theorem dX6_wantRow_9 : decode cX6_wantRow 9 = .ok (.new 72, 3) := by decide +kernel
theorem dX6_wantRow_12 : decode cX6_wantRow 12 = .ok (.dup, 1) := by decide +kernel
theorem dX6_wantRow_13 : decode cX6_wantRow 13 = .ok (.ldc 235, 2) := by decide +kernel
theorem dX6_wantRow_15 : decode cX6_wantRow 15 = .ok (.invokespecial 76, 3) := by decide +kernel
theorem dX6_wantRow_18 : decode cX6_wantRow 18 = .ok (.athrow, 1) := by decide +kernel
theorem dX6_wantRow_19 : decode cX6_wantRow 19 = .ok (.return_, 1) := by decide +kernel
theorem dX6_wantPlace_0 : decode cX6_wantPlace 0 = .ok (.iload_n 0, 1) := by decide +kernel
theorem dX6_wantPlace_1 : decode cX6_wantPlace 1 = .ok (.ifCond .lt 8, 3) := by decide +kernel
theorem dX6_wantPlace_4 : decode cX6_wantPlace 4 = .ok (.iload_n 0, 1) := by decide +kernel
theorem dX6_wantPlace_5 : decode cX6_wantPlace 5 = .ok (.iload_n 1, 1) := by decide +kernel
theorem dX6_wantPlace_6 : decode cX6_wantPlace 6 = .ok (.if_icmp .lt 13, 3) := by decide +kernel
theorem dX6_wantPlace_9 : decode cX6_wantPlace 9 = .ok (.new 72, 3) := by decide +kernel
theorem dX6_wantPlace_12 : decode cX6_wantPlace 12 = .ok (.dup, 1) := by decide +kernel
theorem dX6_wantPlace_13 : decode cX6_wantPlace 13 = .ok (.ldc 237, 2) := by decide +kernel
theorem dX6_wantPlace_15 : decode cX6_wantPlace 15 = .ok (.invokespecial 76, 3) := by decide +kernel
theorem dX6_wantPlace_18 : decode cX6_wantPlace 18 = .ok (.athrow, 1) := by decide +kernel
theorem dX6_wantPlace_19 : decode cX6_wantPlace 19 = .ok (.return_, 1) := by decide +kernel
theorem dX6_rowOf_0 : decode cX6_rowOf 0 = .ok (.iload_n 2, 1) := by decide +kernel
theorem dX6_rowOf_1 : decode cX6_rowOf 1 = .ok (.invokestatic 93, 3) := by decide +kernel
theorem dX6_rowOf_4 : decode cX6_rowOf 4 = .ok (.aload_n 0, 1) := by decide +kernel
theorem dX6_rowOf_5 : decode cX6_rowOf 5 = .ok (.getfield 11, 3) := by decide +kernel
theorem dX6_rowOf_8 : decode cX6_rowOf 8 = .ok (.iload_n 1, 1) := by decide +kernel
theorem dX6_rowOf_9 : decode cX6_rowOf 9 = .ok (.iconst 4, 1) := by decide +kernel
theorem dX6_rowOf_10 : decode cX6_rowOf 10 = .ok (.imul, 1) := by decide +kernel
theorem dX6_rowOf_11 : decode cX6_rowOf 11 = .ok (.iload_n 2, 1) := by decide +kernel
theorem dX6_rowOf_12 : decode cX6_rowOf 12 = .ok (.iadd, 1) := by decide +kernel
theorem dX6_rowOf_13 : decode cX6_rowOf 13 = .ok (.aaload, 1) := by decide +kernel
theorem dX6_rowOf_14 : decode cX6_rowOf 14 = .ok (.areturn, 1) := by decide +kernel
theorem dX6_spanOf_0 : decode cX6_spanOf 0 = .ok (.iload_n 1, 1) := by decide +kernel
theorem dX6_spanOf_1 : decode cX6_spanOf 1 = .ok (.ifCond .lt 9, 3) := by decide +kernel
theorem dX6_spanOf_4 : decode cX6_spanOf 4 = .ok (.iload_n 1, 1) := by decide +kernel
theorem dX6_spanOf_5 : decode cX6_spanOf 5 = .ok (.bipush 12, 2) := by decide +kernel
theorem dX6_spanOf_7 : decode cX6_spanOf 7 = .ok (.if_icmp .lt 13, 3) := by decide +kernel
theorem dX6_spanOf_10 : decode cX6_spanOf 10 = .ok (.new 72, 3) := by decide +kernel
theorem dX6_spanOf_13 : decode cX6_spanOf 13 = .ok (.dup, 1) := by decide +kernel
theorem dX6_spanOf_14 : decode cX6_spanOf 14 = .ok (.ldc 239, 2) := by decide +kernel
theorem dX6_spanOf_16 : decode cX6_spanOf 16 = .ok (.invokespecial 76, 3) := by decide +kernel
theorem dX6_spanOf_19 : decode cX6_spanOf 19 = .ok (.athrow, 1) := by decide +kernel
theorem dX6_spanOf_20 : decode cX6_spanOf 20 = .ok (.aload_n 0, 1) := by decide +kernel
theorem dX6_spanOf_21 : decode cX6_spanOf 21 = .ok (.getfield 17, 3) := by decide +kernel
theorem dX6_spanOf_24 : decode cX6_spanOf 24 = .ok (.iload_n 1, 1) := by decide +kernel
theorem dX6_spanOf_25 : decode cX6_spanOf 25 = .ok (.aaload, 1) := by decide +kernel
theorem dX6_spanOf_26 : decode cX6_spanOf 26 = .ok (.areturn, 1) := by decide +kernel
theorem dX6_fittingWord_0 : decode cX6_fittingWord 0 = .ok (.aload_n 0, 1) := by decide +kernel
theorem dX6_fittingWord_1 : decode cX6_fittingWord 1 = .ok (.iload_n 1, 1) := by decide +kernel
theorem dX6_fittingWord_2 : decode cX6_fittingWord 2 = .ok (.aload_n 2, 1) := by decide +kernel
theorem dX6_fittingWord_3 : decode cX6_fittingWord 3 = .ok (.invokevirtual 108, 3) := by decide +kernel
theorem dX6_fittingWord_6 : decode cX6_fittingWord 6 = .ok (.ifCond .ne 13, 3) := by decide +kernel
theorem dX6_fittingWord_9 : decode cX6_fittingWord 9 = .ok (.new 50, 3) := by decide +kernel
theorem dX6_fittingWord_12 : decode cX6_fittingWord 12 = .ok (.dup, 1) := by decide +kernel
theorem dX6_fittingWord_13 : decode cX6_fittingWord 13 = .ok (.ldc 241, 2) := by decide +kernel
theorem dX6_fittingWord_15 : decode cX6_fittingWord 15 = .ok (.invokespecial 54, 3) := by decide +kernel
theorem dX6_fittingWord_18 : decode cX6_fittingWord 18 = .ok (.athrow, 1) := by decide +kernel
theorem dX6_fittingWord_19 : decode cX6_fittingWord 19 = .ok (.aload_n 0, 1) := by decide +kernel
theorem dX6_fittingWord_20 : decode cX6_fittingWord 20 = .ok (.iload_n 1, 1) := by decide +kernel
theorem dX6_fittingWord_21 : decode cX6_fittingWord 21 = .ok (.aload_n 2, 1) := by decide +kernel
theorem dX6_fittingWord_22 : decode cX6_fittingWord 22 = .ok (.invokevirtual 137, 3) := by decide +kernel
theorem dX6_fittingWord_25 : decode cX6_fittingWord 25 = .ok (.areturn, 1) := by decide +kernel
theorem dX6_isFitting_0 : decode cX6_isFitting 0 = .ok (.aload_n 2, 1) := by decide +kernel
theorem dX6_isFitting_1 : decode cX6_isFitting 1 = .ok (.getfield 103, 3) := by decide +kernel
theorem dX6_isFitting_4 : decode cX6_isFitting 4 = .ok (.aload_n 0, 1) := by decide +kernel
theorem dX6_isFitting_5 : decode cX6_isFitting 5 = .ok (.getfield 11, 3) := by decide +kernel
theorem dX6_isFitting_8 : decode cX6_isFitting 8 = .ok (.iload_n 1, 1) := by decide +kernel
theorem dX6_isFitting_9 : decode cX6_isFitting 9 = .ok (.iconst 4, 1) := by decide +kernel
theorem dX6_isFitting_10 : decode cX6_isFitting 10 = .ok (.imul, 1) := by decide +kernel
theorem dX6_isFitting_11 : decode cX6_isFitting 11 = .ok (.aload_n 2, 1) := by decide +kernel
theorem dX6_isFitting_12 : decode cX6_isFitting 12 = .ok (.getfield 97, 3) := by decide +kernel
theorem dX6_isFitting_15 : decode cX6_isFitting 15 = .ok (.iadd, 1) := by decide +kernel
theorem dX6_isFitting_16 : decode cX6_isFitting 16 = .ok (.aaload, 1) := by decide +kernel
theorem dX6_isFitting_17 : decode cX6_isFitting 17 = .ok (.getfield 46, 3) := by decide +kernel
theorem dX6_isFitting_20 : decode cX6_isFitting 20 = .ok (.if_icmp .gt 7, 3) := by decide +kernel
theorem dX6_isFitting_23 : decode cX6_isFitting 23 = .ok (.iconst 1, 1) := by decide +kernel
theorem dX6_isFitting_24 : decode cX6_isFitting 24 = .ok (.goto 4, 3) := by decide +kernel
theorem dX6_isFitting_27 : decode cX6_isFitting 27 = .ok (.iconst 0, 1) := by decide +kernel
theorem dX6_isFitting_28 : decode cX6_isFitting 28 = .ok (.ireturn, 1) := by decide +kernel
theorem dX6_wordOf_0 : decode cX6_wordOf 0 = .ok (.new 124, 3) := by decide +kernel
theorem dX6_wordOf_3 : decode cX6_wordOf 3 = .ok (.dup, 1) := by decide +kernel
theorem dX6_wordOf_4 : decode cX6_wordOf 4 = .ok (.aload_n 0, 1) := by decide +kernel
theorem dX6_wordOf_5 : decode cX6_wordOf 5 = .ok (.getfield 11, 3) := by decide +kernel
theorem dX6_wordOf_8 : decode cX6_wordOf 8 = .ok (.iload_n 1, 1) := by decide +kernel
theorem dX6_wordOf_9 : decode cX6_wordOf 9 = .ok (.iconst 4, 1) := by decide +kernel
theorem dX6_wordOf_10 : decode cX6_wordOf 10 = .ok (.imul, 1) := by decide +kernel
theorem dX6_wordOf_11 : decode cX6_wordOf 11 = .ok (.aload_n 2, 1) := by decide +kernel
theorem dX6_wordOf_12 : decode cX6_wordOf 12 = .ok (.getfield 97, 3) := by decide +kernel
theorem dX6_wordOf_15 : decode cX6_wordOf 15 = .ok (.iadd, 1) := by decide +kernel
theorem dX6_wordOf_16 : decode cX6_wordOf 16 = .ok (.aaload, 1) := by decide +kernel
theorem dX6_wordOf_17 : decode cX6_wordOf 17 = .ok (.getfield 57, 3) := by decide +kernel
theorem dX6_wordOf_20 : decode cX6_wordOf 20 = .ok (.aload_n 2, 1) := by decide +kernel
theorem dX6_wordOf_21 : decode cX6_wordOf 21 = .ok (.getfield 100, 3) := by decide +kernel
theorem dX6_wordOf_24 : decode cX6_wordOf 24 = .ok (.aload_n 2, 1) := by decide +kernel
theorem dX6_wordOf_25 : decode cX6_wordOf 25 = .ok (.getfield 103, 3) := by decide +kernel
theorem dX6_wordOf_28 : decode cX6_wordOf 28 = .ok (.invokespecial 126, 3) := by decide +kernel
theorem dX6_wordOf_31 : decode cX6_wordOf 31 = .ok (.areturn, 1) := by decide +kernel
theorem dX6_putIntoList_0 : decode cX6_putIntoList 0 = .ok (.aload_n 0, 1) := by decide +kernel
theorem dX6_putIntoList_1 : decode cX6_putIntoList 1 = .ok (.iload_n 1, 1) := by decide +kernel
theorem dX6_putIntoList_2 : decode cX6_putIntoList 2 = .ok (.aload_n 0, 1) := by decide +kernel
theorem dX6_putIntoList_3 : decode cX6_putIntoList 3 = .ok (.getfield 17, 3) := by decide +kernel
theorem dX6_putIntoList_6 : decode cX6_putIntoList 6 = .ok (.iload_n 3, 1) := by decide +kernel
theorem dX6_putIntoList_7 : decode cX6_putIntoList 7 = .ok (.aaload, 1) := by decide +kernel
theorem dX6_putIntoList_8 : decode cX6_putIntoList 8 = .ok (.invokevirtual 137, 3) := by decide +kernel
theorem dX6_putIntoList_11 : decode cX6_putIntoList 11 = .ok (.astore 4, 2) := by decide +kernel
theorem dX6_putIntoList_13 : decode cX6_putIntoList 13 = .ok (.aload_n 0, 1) := by decide +kernel
theorem dX6_putIntoList_14 : decode cX6_putIntoList 14 = .ok (.getfield 144, 3) := by decide +kernel
theorem dX6_putIntoList_17 : decode cX6_putIntoList 17 = .ok (.istore 5, 2) := by decide +kernel
theorem dX6_putIntoList_19 : decode cX6_putIntoList 19 = .ok (.iload 5, 2) := by decide +kernel
theorem dX6_putIntoList_21 : decode cX6_putIntoList 21 = .ok (.ifCond .le 53, 3) := by decide +kernel
theorem dX6_putIntoList_24 : decode cX6_putIntoList 24 = .ok (.aload_n 0, 1) := by decide +kernel
theorem dX6_putIntoList_25 : decode cX6_putIntoList 25 = .ok (.iload_n 1, 1) := by decide +kernel
theorem dX6_putIntoList_26 : decode cX6_putIntoList 26 = .ok (.aload_n 0, 1) := by decide +kernel
theorem dX6_putIntoList_27 : decode cX6_putIntoList 27 = .ok (.getfield 17, 3) := by decide +kernel
theorem dX6_putIntoList_30 : decode cX6_putIntoList 30 = .ok (.aload_n 0, 1) := by decide +kernel
theorem dX6_putIntoList_31 : decode cX6_putIntoList 31 = .ok (.getfield 21, 3) := by decide +kernel
theorem dX6_putIntoList_34 : decode cX6_putIntoList 34 = .ok (.iload 5, 2) := by decide +kernel
theorem dX6_putIntoList_36 : decode cX6_putIntoList 36 = .ok (.iconst 1, 1) := by decide +kernel
theorem dX6_putIntoList_37 : decode cX6_putIntoList 37 = .ok (.isub, 1) := by decide +kernel
theorem dX6_putIntoList_38 : decode cX6_putIntoList 38 = .ok (.iaload, 1) := by decide +kernel
theorem dX6_putIntoList_39 : decode cX6_putIntoList 39 = .ok (.aaload, 1) := by decide +kernel
theorem dX6_putIntoList_40 : decode cX6_putIntoList 40 = .ok (.invokevirtual 137, 3) := by decide +kernel
theorem dX6_putIntoList_43 : decode cX6_putIntoList 43 = .ok (.aload 4, 2) := by decide +kernel
theorem dX6_putIntoList_45 : decode cX6_putIntoList 45 = .ok (.iload_n 2, 1) := by decide +kernel
theorem dX6_putIntoList_46 : decode cX6_putIntoList 46 = .ok (.invokestatic 140, 3) := by decide +kernel
theorem dX6_putIntoList_49 : decode cX6_putIntoList 49 = .ok (.ifCond .le 25, 3) := by decide +kernel
theorem dX6_putIntoList_52 : decode cX6_putIntoList 52 = .ok (.aload_n 0, 1) := by decide +kernel
theorem dX6_putIntoList_53 : decode cX6_putIntoList 53 = .ok (.getfield 21, 3) := by decide +kernel
theorem dX6_putIntoList_56 : decode cX6_putIntoList 56 = .ok (.iload 5, 2) := by decide +kernel
theorem dX6_putIntoList_58 : decode cX6_putIntoList 58 = .ok (.aload_n 0, 1) := by decide +kernel
theorem dX6_putIntoList_59 : decode cX6_putIntoList 59 = .ok (.getfield 21, 3) := by decide +kernel
theorem dX6_putIntoList_62 : decode cX6_putIntoList 62 = .ok (.iload 5, 2) := by decide +kernel
theorem dX6_putIntoList_64 : decode cX6_putIntoList 64 = .ok (.iconst 1, 1) := by decide +kernel
theorem dX6_putIntoList_65 : decode cX6_putIntoList 65 = .ok (.isub, 1) := by decide +kernel
theorem dX6_putIntoList_66 : decode cX6_putIntoList 66 = .ok (.iaload, 1) := by decide +kernel
theorem dX6_putIntoList_67 : decode cX6_putIntoList 67 = .ok (.iastore, 1) := by decide +kernel
theorem dX6_putIntoList_68 : decode cX6_putIntoList 68 = .ok (.iinc 5 (-1), 3) := by decide +kernel
theorem dX6_putIntoList_71 : decode cX6_putIntoList 71 = .ok (.goto (-52), 3) := by decide +kernel
theorem dX6_putIntoList_74 : decode cX6_putIntoList 74 = .ok (.aload_n 0, 1) := by decide +kernel
theorem dX6_putIntoList_75 : decode cX6_putIntoList 75 = .ok (.getfield 21, 3) := by decide +kernel
theorem dX6_putIntoList_78 : decode cX6_putIntoList 78 = .ok (.iload 5, 2) := by decide +kernel
theorem dX6_putIntoList_80 : decode cX6_putIntoList 80 = .ok (.iload_n 3, 1) := by decide +kernel
theorem dX6_putIntoList_81 : decode cX6_putIntoList 81 = .ok (.iastore, 1) := by decide +kernel
theorem dX6_putIntoList_82 : decode cX6_putIntoList 82 = .ok (.aload_n 0, 1) := by decide +kernel
theorem dX6_putIntoList_83 : decode cX6_putIntoList 83 = .ok (.dup, 1) := by decide +kernel
theorem dX6_putIntoList_84 : decode cX6_putIntoList 84 = .ok (.getfield 144, 3) := by decide +kernel
theorem dX6_putIntoList_87 : decode cX6_putIntoList 87 = .ok (.iconst 1, 1) := by decide +kernel
theorem dX6_putIntoList_88 : decode cX6_putIntoList 88 = .ok (.iadd, 1) := by decide +kernel
theorem dX6_putIntoList_89 : decode cX6_putIntoList 89 = .ok (.putfield 144, 3) := by decide +kernel
theorem dX6_putIntoList_92 : decode cX6_putIntoList 92 = .ok (.return_, 1) := by decide +kernel
theorem dX6_fittingAhead_0 : decode cX6_fittingAhead 0 = .ok (.iconst 0, 1) := by decide +kernel
theorem dX6_fittingAhead_1 : decode cX6_fittingAhead 1 = .ok (.istore_n 3, 1) := by decide +kernel
theorem dX6_fittingAhead_2 : decode cX6_fittingAhead 2 = .ok (.iconst 0, 1) := by decide +kernel
theorem dX6_fittingAhead_3 : decode cX6_fittingAhead 3 = .ok (.istore 4, 2) := by decide +kernel
theorem dX6_fittingAhead_5 : decode cX6_fittingAhead 5 = .ok (.iload 4, 2) := by decide +kernel
theorem dX6_fittingAhead_7 : decode cX6_fittingAhead 7 = .ok (.iload_n 2, 1) := by decide +kernel
theorem dX6_fittingAhead_8 : decode cX6_fittingAhead 8 = .ok (.if_icmp .ge 27, 3) := by decide +kernel
theorem dX6_fittingAhead_11 : decode cX6_fittingAhead 11 = .ok (.aload_n 0, 1) := by decide +kernel
theorem dX6_fittingAhead_12 : decode cX6_fittingAhead 12 = .ok (.iload_n 1, 1) := by decide +kernel
theorem dX6_fittingAhead_13 : decode cX6_fittingAhead 13 = .ok (.aload_n 0, 1) := by decide +kernel
theorem dX6_fittingAhead_14 : decode cX6_fittingAhead 14 = .ok (.getfield 17, 3) := by decide +kernel
theorem dX6_fittingAhead_17 : decode cX6_fittingAhead 17 = .ok (.iload 4, 2) := by decide +kernel
theorem dX6_fittingAhead_19 : decode cX6_fittingAhead 19 = .ok (.aaload, 1) := by decide +kernel
theorem dX6_fittingAhead_20 : decode cX6_fittingAhead 20 = .ok (.invokevirtual 108, 3) := by decide +kernel
theorem dX6_fittingAhead_23 : decode cX6_fittingAhead 23 = .ok (.ifCond .eq 6, 3) := by decide +kernel
theorem dX6_fittingAhead_26 : decode cX6_fittingAhead 26 = .ok (.iinc 3 1, 3) := by decide +kernel
theorem dX6_fittingAhead_29 : decode cX6_fittingAhead 29 = .ok (.iinc 4 1, 3) := by decide +kernel
theorem dX6_fittingAhead_32 : decode cX6_fittingAhead 32 = .ok (.goto (-27), 3) := by decide +kernel
theorem dX6_fittingAhead_35 : decode cX6_fittingAhead 35 = .ok (.iload_n 3, 1) := by decide +kernel
theorem dX6_fittingAhead_36 : decode cX6_fittingAhead 36 = .ok (.ireturn, 1) := by decide +kernel
theorem dX6_sameAhead_0 : decode cX6_sameAhead 0 = .ok (.aload_n 0, 1) := by decide +kernel
theorem dX6_sameAhead_1 : decode cX6_sameAhead 1 = .ok (.iload_n 1, 1) := by decide +kernel
theorem dX6_sameAhead_2 : decode cX6_sameAhead 2 = .ok (.aload_n 0, 1) := by decide +kernel
theorem dX6_sameAhead_3 : decode cX6_sameAhead 3 = .ok (.getfield 17, 3) := by decide +kernel
theorem dX6_sameAhead_6 : decode cX6_sameAhead 6 = .ok (.iload_n 2, 1) := by decide +kernel
theorem dX6_sameAhead_7 : decode cX6_sameAhead 7 = .ok (.aaload, 1) := by decide +kernel
theorem dX6_sameAhead_8 : decode cX6_sameAhead 8 = .ok (.invokevirtual 137, 3) := by decide +kernel
theorem dX6_sameAhead_11 : decode cX6_sameAhead 11 = .ok (.astore_n 3, 1) := by decide +kernel
theorem dX6_sameAhead_12 : decode cX6_sameAhead 12 = .ok (.iconst 0, 1) := by decide +kernel
theorem dX6_sameAhead_13 : decode cX6_sameAhead 13 = .ok (.istore 4, 2) := by decide +kernel
theorem dX6_sameAhead_15 : decode cX6_sameAhead 15 = .ok (.iconst 0, 1) := by decide +kernel
theorem dX6_sameAhead_16 : decode cX6_sameAhead 16 = .ok (.istore 5, 2) := by decide +kernel
theorem dX6_sameAhead_18 : decode cX6_sameAhead 18 = .ok (.iload 5, 2) := by decide +kernel
theorem dX6_sameAhead_20 : decode cX6_sameAhead 20 = .ok (.iload_n 2, 1) := by decide +kernel
theorem dX6_sameAhead_21 : decode cX6_sameAhead 21 = .ok (.if_icmp .ge 46, 3) := by decide +kernel
theorem dX6_sameAhead_24 : decode cX6_sameAhead 24 = .ok (.aload_n 0, 1) := by decide +kernel
theorem dX6_sameAhead_25 : decode cX6_sameAhead 25 = .ok (.iload_n 1, 1) := by decide +kernel
theorem dX6_sameAhead_26 : decode cX6_sameAhead 26 = .ok (.aload_n 0, 1) := by decide +kernel
theorem dX6_sameAhead_27 : decode cX6_sameAhead 27 = .ok (.getfield 17, 3) := by decide +kernel
theorem dX6_sameAhead_30 : decode cX6_sameAhead 30 = .ok (.iload 5, 2) := by decide +kernel
theorem dX6_sameAhead_32 : decode cX6_sameAhead 32 = .ok (.aaload, 1) := by decide +kernel
theorem dX6_sameAhead_33 : decode cX6_sameAhead 33 = .ok (.invokevirtual 108, 3) := by decide +kernel
theorem dX6_sameAhead_36 : decode cX6_sameAhead 36 = .ok (.ifCond .eq 25, 3) := by decide +kernel
theorem dX6_sameAhead_39 : decode cX6_sameAhead 39 = .ok (.aload_n 0, 1) := by decide +kernel
theorem dX6_sameAhead_40 : decode cX6_sameAhead 40 = .ok (.iload_n 1, 1) := by decide +kernel
theorem dX6_sameAhead_41 : decode cX6_sameAhead 41 = .ok (.aload_n 0, 1) := by decide +kernel
theorem dX6_sameAhead_42 : decode cX6_sameAhead 42 = .ok (.getfield 17, 3) := by decide +kernel
theorem dX6_sameAhead_45 : decode cX6_sameAhead 45 = .ok (.iload 5, 2) := by decide +kernel
theorem dX6_sameAhead_47 : decode cX6_sameAhead 47 = .ok (.aaload, 1) := by decide +kernel
theorem dX6_sameAhead_48 : decode cX6_sameAhead 48 = .ok (.invokevirtual 137, 3) := by decide +kernel
theorem dX6_sameAhead_51 : decode cX6_sameAhead 51 = .ok (.aload_n 3, 1) := by decide +kernel
theorem dX6_sameAhead_52 : decode cX6_sameAhead 52 = .ok (.invokestatic 243, 3) := by decide +kernel
theorem dX6_sameAhead_55 : decode cX6_sameAhead 55 = .ok (.ifCond .eq 6, 3) := by decide +kernel
theorem dX6_sameAhead_58 : decode cX6_sameAhead 58 = .ok (.iinc 4 1, 3) := by decide +kernel
theorem dX6_sameAhead_61 : decode cX6_sameAhead 61 = .ok (.iinc 5 1, 3) := by decide +kernel
theorem dX6_sameAhead_64 : decode cX6_sameAhead 64 = .ok (.goto (-46), 3) := by decide +kernel
theorem dX6_sameAhead_67 : decode cX6_sameAhead 67 = .ok (.iload 4, 2) := by decide +kernel
theorem dX6_sameAhead_69 : decode cX6_sameAhead 69 = .ok (.ireturn, 1) := by decide +kernel
theorem dX6_isNumberOf_0 : decode cX6_isNumberOf 0 = .ok (.lload_n 1, 1) := by decide +kernel
theorem dX6_isNumberOf_1 : decode cX6_isNumberOf 1 = .ok (.getstatic 247, 3) := by decide +kernel
theorem dX6_isNumberOf_4 : decode cX6_isNumberOf 4 = .ok (.iload_n 0, 1) := by decide +kernel
theorem dX6_isNumberOf_5 : decode cX6_isNumberOf 5 = .ok (.laload, 1) := by decide +kernel
theorem dX6_isNumberOf_6 : decode cX6_isNumberOf 6 = .ok (.lcmp, 1) := by decide +kernel
theorem dX6_isNumberOf_7 : decode cX6_isNumberOf 7 = .ok (.ifCond .lt 21, 3) := by decide +kernel
theorem dX6_isNumberOf_10 : decode cX6_isNumberOf 10 = .ok (.lload_n 1, 1) := by decide +kernel
theorem dX6_isNumberOf_11 : decode cX6_isNumberOf 11 = .ok (.getstatic 247, 3) := by decide +kernel
theorem dX6_isNumberOf_14 : decode cX6_isNumberOf 14 = .ok (.iload_n 0, 1) := by decide +kernel
theorem dX6_isNumberOf_15 : decode cX6_isNumberOf 15 = .ok (.laload, 1) := by decide +kernel
theorem dX6_isNumberOf_16 : decode cX6_isNumberOf 16 = .ok (.ldc2_w 250, 3) := by decide +kernel
theorem dX6_isNumberOf_19 : decode cX6_isNumberOf 19 = .ok (.lxor, 1) := by decide +kernel
theorem dX6_isNumberOf_20 : decode cX6_isNumberOf 20 = .ok (.lcmp, 1) := by decide +kernel
theorem dX6_isNumberOf_21 : decode cX6_isNumberOf 21 = .ok (.ifCond .gt 7, 3) := by decide +kernel
theorem dX6_isNumberOf_24 : decode cX6_isNumberOf 24 = .ok (.iconst 1, 1) := by decide +kernel
theorem dX6_isNumberOf_25 : decode cX6_isNumberOf 25 = .ok (.goto 4, 3) := by decide +kernel
theorem dX6_isNumberOf_28 : decode cX6_isNumberOf 28 = .ok (.iconst 0, 1) := by decide +kernel
theorem dX6_isNumberOf_29 : decode cX6_isNumberOf 29 = .ok (.ireturn, 1) := by decide +kernel
theorem dX6_compareNumbers_0 : decode cX6_compareNumbers 0 = .ok (.iload 4, 2) := by decide +kernel
theorem dX6_compareNumbers_2 : decode cX6_compareNumbers 2 = .ok (.ifCond .eq 11, 3) := by decide +kernel
theorem dX6_compareNumbers_5 : decode cX6_compareNumbers 5 = .ok (.lload_n 0, 1) := by decide +kernel
theorem dX6_compareNumbers_6 : decode cX6_compareNumbers 6 = .ok (.ldc2_w 252, 3) := by decide +kernel
theorem dX6_compareNumbers_9 : decode cX6_compareNumbers 9 = .ok (.lxor, 1) := by decide +kernel
theorem dX6_compareNumbers_10 : decode cX6_compareNumbers 10 = .ok (.goto 4, 3) := by decide +kernel
theorem dX6_compareNumbers_13 : decode cX6_compareNumbers 13 = .ok (.lload_n 0, 1) := by decide +kernel
theorem dX6_compareNumbers_14 : decode cX6_compareNumbers 14 = .ok (.lstore 5, 2) := by decide +kernel
theorem dX6_compareNumbers_16 : decode cX6_compareNumbers 16 = .ok (.iload 4, 2) := by decide +kernel
theorem dX6_compareNumbers_18 : decode cX6_compareNumbers 18 = .ok (.ifCond .eq 11, 3) := by decide +kernel
theorem dX6_compareNumbers_21 : decode cX6_compareNumbers 21 = .ok (.lload_n 2, 1) := by decide +kernel
theorem dX6_compareNumbers_22 : decode cX6_compareNumbers 22 = .ok (.ldc2_w 252, 3) := by decide +kernel
theorem dX6_compareNumbers_25 : decode cX6_compareNumbers 25 = .ok (.lxor, 1) := by decide +kernel
theorem dX6_compareNumbers_26 : decode cX6_compareNumbers 26 = .ok (.goto 4, 3) := by decide +kernel
theorem dX6_compareNumbers_29 : decode cX6_compareNumbers 29 = .ok (.lload_n 2, 1) := by decide +kernel
theorem dX6_compareNumbers_30 : decode cX6_compareNumbers 30 = .ok (.lstore 7, 2) := by decide +kernel
theorem dX6_compareNumbers_32 : decode cX6_compareNumbers 32 = .ok (.lload 5, 2) := by decide +kernel
theorem dX6_compareNumbers_34 : decode cX6_compareNumbers 34 = .ok (.lload 7, 2) := by decide +kernel
theorem dX6_compareNumbers_36 : decode cX6_compareNumbers 36 = .ok (.lcmp, 1) := by decide +kernel
theorem dX6_compareNumbers_37 : decode cX6_compareNumbers 37 = .ok (.ifCond .ne 5, 3) := by decide +kernel
theorem dX6_compareNumbers_40 : decode cX6_compareNumbers 40 = .ok (.iconst 0, 1) := by decide +kernel
theorem dX6_compareNumbers_41 : decode cX6_compareNumbers 41 = .ok (.ireturn, 1) := by decide +kernel
theorem dX6_compareNumbers_42 : decode cX6_compareNumbers 42 = .ok (.lload 5, 2) := by decide +kernel
theorem dX6_compareNumbers_44 : decode cX6_compareNumbers 44 = .ok (.lload 7, 2) := by decide +kernel
theorem dX6_compareNumbers_46 : decode cX6_compareNumbers 46 = .ok (.lcmp, 1) := by decide +kernel
theorem dX6_compareNumbers_47 : decode cX6_compareNumbers 47 = .ok (.ifCond .ge 7, 3) := by decide +kernel
theorem dX6_compareNumbers_50 : decode cX6_compareNumbers 50 = .ok (.iconst (-1), 1) := by decide +kernel
theorem dX6_compareNumbers_51 : decode cX6_compareNumbers 51 = .ok (.goto 4, 3) := by decide +kernel
theorem dX6_compareNumbers_54 : decode cX6_compareNumbers 54 = .ok (.iconst 1, 1) := by decide +kernel
theorem dX6_compareNumbers_55 : decode cX6_compareNumbers 55 = .ok (.ireturn, 1) := by decide +kernel
theorem dX6_canChange_0 : decode cX6_canChange 0 = .ok (.iload_n 1, 1) := by decide +kernel
theorem dX6_canChange_1 : decode cX6_canChange 1 = .ok (.bipush 117, 2) := by decide +kernel
theorem dX6_canChange_3 : decode cX6_canChange 3 = .ok (.if_icmp .ne 16, 3) := by decide +kernel
theorem dX6_canChange_6 : decode cX6_canChange 6 = .ok (.iload_n 0, 1) := by decide +kernel
theorem dX6_canChange_7 : decode cX6_canChange 7 = .ok (.iconst 3, 1) := by decide +kernel
theorem dX6_canChange_8 : decode cX6_canChange 8 = .ok (.if_icmp .ne 11, 3) := by decide +kernel
theorem dX6_canChange_11 : decode cX6_canChange 11 = .ok (.lload_n 2, 1) := by decide +kernel
theorem dX6_canChange_12 : decode cX6_canChange 12 = .ok (.lconst 0, 1) := by decide +kernel
theorem dX6_canChange_13 : decode cX6_canChange 13 = .ok (.lcmp, 1) := by decide +kernel
theorem dX6_canChange_14 : decode cX6_canChange 14 = .ok (.ifCond .ge 5, 3) := by decide +kernel
theorem dX6_canChange_17 : decode cX6_canChange 17 = .ok (.iconst 0, 1) := by decide +kernel
theorem dX6_canChange_18 : decode cX6_canChange 18 = .ok (.ireturn, 1) := by decide +kernel
theorem dX6_canChange_19 : decode cX6_canChange 19 = .ok (.iload 4, 2) := by decide +kernel
theorem dX6_canChange_21 : decode cX6_canChange 21 = .ok (.iload_n 0, 1) := by decide +kernel
theorem dX6_canChange_22 : decode cX6_canChange 22 = .ok (.iload_n 1, 1) := by decide +kernel
theorem dX6_canChange_23 : decode cX6_canChange 23 = .ok (.lload_n 2, 1) := by decide +kernel
theorem dX6_canChange_24 : decode cX6_canChange 24 = .ok (.invokestatic 85, 3) := by decide +kernel
theorem dX6_canChange_27 : decode cX6_canChange 27 = .ok (.invokestatic 229, 3) := by decide +kernel
theorem dX6_canChange_30 : decode cX6_canChange 30 = .ok (.ireturn, 1) := by decide +kernel
theorem dX6_changed_0 : decode cX6_changed 0 = .ok (.iload_n 1, 1) := by decide +kernel
theorem dX6_changed_1 : decode cX6_changed 1 = .ok (.bipush 117, 2) := by decide +kernel
theorem dX6_changed_3 : decode cX6_changed 3 = .ok (.if_icmp .ne 25, 3) := by decide +kernel
theorem dX6_changed_6 : decode cX6_changed 6 = .ok (.lload_n 2, 1) := by decide +kernel
theorem dX6_changed_7 : decode cX6_changed 7 = .ok (.lconst 0, 1) := by decide +kernel
theorem dX6_changed_8 : decode cX6_changed 8 = .ok (.lcmp, 1) := by decide +kernel
theorem dX6_changed_9 : decode cX6_changed 9 = .ok (.ifCond .ge 17, 3) := by decide +kernel
theorem dX6_changed_12 : decode cX6_changed 12 = .ok (.lload_n 2, 1) := by decide +kernel
theorem dX6_changed_13 : decode cX6_changed 13 = .ok (.ldc2_w 254, 3) := by decide +kernel
theorem dX6_changed_16 : decode cX6_changed 16 = .ok (.getstatic 247, 3) := by decide +kernel
theorem dX6_changed_19 : decode cX6_changed 19 = .ok (.iload_n 0, 1) := by decide +kernel
theorem dX6_changed_20 : decode cX6_changed 20 = .ok (.laload, 1) := by decide +kernel
theorem dX6_changed_21 : decode cX6_changed 21 = .ok (.lmul, 1) := by decide +kernel
theorem dX6_changed_22 : decode cX6_changed 22 = .ok (.lsub, 1) := by decide +kernel
theorem dX6_changed_23 : decode cX6_changed 23 = .ok (.goto 4, 3) := by decide +kernel
theorem dX6_changed_26 : decode cX6_changed 26 = .ok (.lload_n 2, 1) := by decide +kernel
theorem dX6_changed_27 : decode cX6_changed 27 = .ok (.lreturn, 1) := by decide +kernel
theorem dX6_changed_28 : decode cX6_changed 28 = .ok (.iload_n 1, 1) := by decide +kernel
theorem dX6_changed_29 : decode cX6_changed 29 = .ok (.bipush 116, 2) := by decide +kernel
theorem dX6_changed_31 : decode cX6_changed 31 = .ok (.if_icmp .ne 27, 3) := by decide +kernel
theorem dX6_changed_34 : decode cX6_changed 34 = .ok (.lload_n 2, 1) := by decide +kernel
theorem dX6_changed_35 : decode cX6_changed 35 = .ok (.lconst 0, 1) := by decide +kernel
theorem dX6_changed_36 : decode cX6_changed 36 = .ok (.lcmp, 1) := by decide +kernel
theorem dX6_changed_37 : decode cX6_changed 37 = .ok (.ifCond .ge 13, 3) := by decide +kernel
theorem dX6_changed_40 : decode cX6_changed 40 = .ok (.lload_n 2, 1) := by decide +kernel
theorem dX6_changed_41 : decode cX6_changed 41 = .ok (.getstatic 247, 3) := by decide +kernel
theorem dX6_changed_44 : decode cX6_changed 44 = .ok (.iload_n 0, 1) := by decide +kernel
theorem dX6_changed_45 : decode cX6_changed 45 = .ok (.laload, 1) := by decide +kernel
theorem dX6_changed_46 : decode cX6_changed 46 = .ok (.lsub, 1) := by decide +kernel
theorem dX6_changed_47 : decode cX6_changed 47 = .ok (.goto 10, 3) := by decide +kernel
theorem dX6_changed_50 : decode cX6_changed 50 = .ok (.lload_n 2, 1) := by decide +kernel
theorem dX6_changed_51 : decode cX6_changed 51 = .ok (.getstatic 247, 3) := by decide +kernel
theorem dX6_changed_54 : decode cX6_changed 54 = .ok (.iload_n 0, 1) := by decide +kernel
theorem dX6_changed_55 : decode cX6_changed 55 = .ok (.laload, 1) := by decide +kernel
theorem dX6_changed_56 : decode cX6_changed 56 = .ok (.ladd, 1) := by decide +kernel
theorem dX6_changed_57 : decode cX6_changed 57 = .ok (.lreturn, 1) := by decide +kernel
theorem dX6_changed_58 : decode cX6_changed 58 = .ok (.lload_n 2, 1) := by decide +kernel
theorem dX6_changed_59 : decode cX6_changed 59 = .ok (.lreturn, 1) := by decide +kernel
theorem dX6_alike_0 : decode cX6_alike 0 = .ok (.aload_n 0, 1) := by decide +kernel
theorem dX6_alike_1 : decode cX6_alike 1 = .ok (.invokevirtual 168, 3) := by decide +kernel
theorem dX6_alike_4 : decode cX6_alike 4 = .ok (.aload_n 1, 1) := by decide +kernel
theorem dX6_alike_5 : decode cX6_alike 5 = .ok (.invokevirtual 168, 3) := by decide +kernel
theorem dX6_alike_8 : decode cX6_alike 8 = .ok (.invokestatic 256, 3) := by decide +kernel
theorem dX6_alike_11 : decode cX6_alike 11 = .ok (.istore_n 2, 1) := by decide +kernel
theorem dX6_alike_12 : decode cX6_alike 12 = .ok (.iconst 0, 1) := by decide +kernel
theorem dX6_alike_13 : decode cX6_alike 13 = .ok (.istore_n 3, 1) := by decide +kernel
theorem dX6_alike_14 : decode cX6_alike 14 = .ok (.iload_n 3, 1) := by decide +kernel
theorem dX6_alike_15 : decode cX6_alike 15 = .ok (.iload_n 2, 1) := by decide +kernel
theorem dX6_alike_16 : decode cX6_alike 16 = .ok (.if_icmp .ge 23, 3) := by decide +kernel
theorem dX6_alike_19 : decode cX6_alike 19 = .ok (.aload_n 0, 1) := by decide +kernel
theorem dX6_alike_20 : decode cX6_alike 20 = .ok (.iload_n 3, 1) := by decide +kernel
theorem dX6_alike_21 : decode cX6_alike 21 = .ok (.invokevirtual 261, 3) := by decide +kernel
theorem dX6_alike_24 : decode cX6_alike 24 = .ok (.aload_n 1, 1) := by decide +kernel
theorem dX6_alike_25 : decode cX6_alike 25 = .ok (.iload_n 3, 1) := by decide +kernel
theorem dX6_alike_26 : decode cX6_alike 26 = .ok (.invokevirtual 261, 3) := by decide +kernel
theorem dX6_alike_29 : decode cX6_alike 29 = .ok (.lcmp, 1) := by decide +kernel
theorem dX6_alike_30 : decode cX6_alike 30 = .ok (.ifCond .ne 9, 3) := by decide +kernel
theorem dX6_alike_33 : decode cX6_alike 33 = .ok (.iinc 3 1, 3) := by decide +kernel
theorem dX6_alike_36 : decode cX6_alike 36 = .ok (.goto (-22), 3) := by decide +kernel
theorem dX6_alike_39 : decode cX6_alike 39 = .ok (.iload_n 3, 1) := by decide +kernel
theorem dX6_alike_40 : decode cX6_alike 40 = .ok (.ireturn, 1) := by decide +kernel
theorem dX6_isSame_0 : decode cX6_isSame 0 = .ok (.aload_n 0, 1) := by decide +kernel
theorem dX6_isSame_1 : decode cX6_isSame 1 = .ok (.invokevirtual 168, 3) := by decide +kernel
theorem dX6_isSame_4 : decode cX6_isSame 4 = .ok (.aload_n 1, 1) := by decide +kernel
theorem dX6_isSame_5 : decode cX6_isSame 5 = .ok (.invokevirtual 168, 3) := by decide +kernel
theorem dX6_isSame_8 : decode cX6_isSame 8 = .ok (.if_icmp .ne 19, 3) := by decide +kernel
theorem dX6_isSame_11 : decode cX6_isSame 11 = .ok (.aload_n 0, 1) := by decide +kernel
theorem dX6_isSame_12 : decode cX6_isSame 12 = .ok (.aload_n 1, 1) := by decide +kernel
theorem dX6_isSame_13 : decode cX6_isSame 13 = .ok (.invokestatic 129, 3) := by decide +kernel
theorem dX6_isSame_16 : decode cX6_isSame 16 = .ok (.aload_n 0, 1) := by decide +kernel
theorem dX6_isSame_17 : decode cX6_isSame 17 = .ok (.invokevirtual 168, 3) := by decide +kernel
theorem dX6_isSame_20 : decode cX6_isSame 20 = .ok (.if_icmp .ne 7, 3) := by decide +kernel
theorem dX6_isSame_23 : decode cX6_isSame 23 = .ok (.iconst 1, 1) := by decide +kernel
theorem dX6_isSame_24 : decode cX6_isSame 24 = .ok (.goto 4, 3) := by decide +kernel
theorem dX6_isSame_27 : decode cX6_isSame 27 = .ok (.iconst 0, 1) := by decide +kernel
theorem dX6_isSame_28 : decode cX6_isSame 28 = .ok (.ireturn, 1) := by decide +kernel
theorem dX6_mismatch_0 : decode cX6_mismatch 0 = .ok (.aload_n 0, 1) := by decide +kernel
theorem dX6_mismatch_1 : decode cX6_mismatch 1 = .ok (.aload_n 1, 1) := by decide +kernel
theorem dX6_mismatch_2 : decode cX6_mismatch 2 = .ok (.invokestatic 129, 3) := by decide +kernel
theorem dX6_mismatch_5 : decode cX6_mismatch 5 = .ok (.istore_n 2, 1) := by decide +kernel
theorem dX6_mismatch_6 : decode cX6_mismatch 6 = .ok (.iload_n 2, 1) := by decide +kernel
theorem dX6_mismatch_7 : decode cX6_mismatch 7 = .ok (.aload_n 0, 1) := by decide +kernel
theorem dX6_mismatch_8 : decode cX6_mismatch 8 = .ok (.invokevirtual 168, 3) := by decide +kernel
theorem dX6_mismatch_11 : decode cX6_mismatch 11 = .ok (.if_icmp .ne 15, 3) := by decide +kernel
theorem dX6_mismatch_14 : decode cX6_mismatch 14 = .ok (.iload_n 2, 1) := by decide +kernel
theorem dX6_mismatch_15 : decode cX6_mismatch 15 = .ok (.aload_n 1, 1) := by decide +kernel
theorem dX6_mismatch_16 : decode cX6_mismatch 16 = .ok (.invokevirtual 168, 3) := by decide +kernel
theorem dX6_mismatch_19 : decode cX6_mismatch 19 = .ok (.if_icmp .ne 7, 3) := by decide +kernel
theorem dX6_mismatch_22 : decode cX6_mismatch 22 = .ok (.iconst (-1), 1) := by decide +kernel
theorem dX6_mismatch_23 : decode cX6_mismatch 23 = .ok (.goto 4, 3) := by decide +kernel
theorem dX6_mismatch_26 : decode cX6_mismatch 26 = .ok (.iload_n 2, 1) := by decide +kernel
theorem dX6_mismatch_27 : decode cX6_mismatch 27 = .ok (.ireturn, 1) := by decide +kernel
theorem dX6_compareWords_0 : decode cX6_compareWords 0 = .ok (.aload_n 0, 1) := by decide +kernel
theorem dX6_compareWords_1 : decode cX6_compareWords 1 = .ok (.aload_n 1, 1) := by decide +kernel
theorem dX6_compareWords_2 : decode cX6_compareWords 2 = .ok (.invokestatic 129, 3) := by decide +kernel
theorem dX6_compareWords_5 : decode cX6_compareWords 5 = .ok (.istore_n 3, 1) := by decide +kernel
theorem dX6_compareWords_6 : decode cX6_compareWords 6 = .ok (.iload_n 3, 1) := by decide +kernel
theorem dX6_compareWords_7 : decode cX6_compareWords 7 = .ok (.aload_n 0, 1) := by decide +kernel
theorem dX6_compareWords_8 : decode cX6_compareWords 8 = .ok (.invokevirtual 168, 3) := by decide +kernel
theorem dX6_compareWords_11 : decode cX6_compareWords 11 = .ok (.if_icmp .ge 26, 3) := by decide +kernel
theorem dX6_compareWords_14 : decode cX6_compareWords 14 = .ok (.iload_n 3, 1) := by decide +kernel
theorem dX6_compareWords_15 : decode cX6_compareWords 15 = .ok (.aload_n 1, 1) := by decide +kernel
theorem dX6_compareWords_16 : decode cX6_compareWords 16 = .ok (.invokevirtual 168, 3) := by decide +kernel
theorem dX6_compareWords_19 : decode cX6_compareWords 19 = .ok (.if_icmp .ge 18, 3) := by decide +kernel
theorem dX6_compareWords_22 : decode cX6_compareWords 22 = .ok (.aload_n 0, 1) := by decide +kernel
theorem dX6_compareWords_23 : decode cX6_compareWords 23 = .ok (.iload_n 3, 1) := by decide +kernel
theorem dX6_compareWords_24 : decode cX6_compareWords 24 = .ok (.invokevirtual 261, 3) := by decide +kernel
theorem dX6_compareWords_27 : decode cX6_compareWords 27 = .ok (.aload_n 1, 1) := by decide +kernel
theorem dX6_compareWords_28 : decode cX6_compareWords 28 = .ok (.iload_n 3, 1) := by decide +kernel
theorem dX6_compareWords_29 : decode cX6_compareWords 29 = .ok (.invokevirtual 261, 3) := by decide +kernel
theorem dX6_compareWords_32 : decode cX6_compareWords 32 = .ok (.iload_n 2, 1) := by decide +kernel
theorem dX6_compareWords_33 : decode cX6_compareWords 33 = .ok (.invokestatic 265, 3) := by decide +kernel
theorem dX6_compareWords_36 : decode cX6_compareWords 36 = .ok (.ireturn, 1) := by decide +kernel
theorem dX6_compareWords_37 : decode cX6_compareWords 37 = .ok (.aload_n 0, 1) := by decide +kernel
theorem dX6_compareWords_38 : decode cX6_compareWords 38 = .ok (.invokevirtual 168, 3) := by decide +kernel
theorem dX6_compareWords_41 : decode cX6_compareWords 41 = .ok (.i2l, 1) := by decide +kernel
theorem dX6_compareWords_42 : decode cX6_compareWords 42 = .ok (.aload_n 1, 1) := by decide +kernel
theorem dX6_compareWords_43 : decode cX6_compareWords 43 = .ok (.invokevirtual 168, 3) := by decide +kernel
theorem dX6_compareWords_46 : decode cX6_compareWords 46 = .ok (.i2l, 1) := by decide +kernel
theorem dX6_compareWords_47 : decode cX6_compareWords 47 = .ok (.iconst 0, 1) := by decide +kernel
theorem dX6_compareWords_48 : decode cX6_compareWords 48 = .ok (.invokestatic 265, 3) := by decide +kernel
theorem dX6_compareWords_51 : decode cX6_compareWords 51 = .ok (.ireturn, 1) := by decide +kernel
theorem dX6_answer_0 : decode cX6_answer 0 = .ok (.iload_n 0, 1) := by decide +kernel
theorem dX6_answer_1 : decode cX6_answer 1 = .ok (.lookupswitch 63 #[(99, 49), (101, 35), (117, 56)], 35) := by decide +kernel
theorem dX6_answer_36 : decode cX6_answer 36 = .ok (.aload_n 1, 1) := by decide +kernel
theorem dX6_answer_37 : decode cX6_answer 37 = .ok (.aload_n 2, 1) := by decide +kernel
theorem dX6_answer_38 : decode cX6_answer 38 = .ok (.invokestatic 243, 3) := by decide +kernel
theorem dX6_answer_41 : decode cX6_answer 41 = .ok (.ifCond .eq 7, 3) := by decide +kernel
theorem dX6_answer_44 : decode cX6_answer 44 = .ok (.iconst 1, 1) := by decide +kernel
theorem dX6_answer_45 : decode cX6_answer 45 = .ok (.goto 4, 3) := by decide +kernel
theorem dX6_answer_48 : decode cX6_answer 48 = .ok (.iconst 0, 1) := by decide +kernel
theorem dX6_answer_49 : decode cX6_answer 49 = .ok (.ireturn, 1) := by decide +kernel
theorem dX6_answer_50 : decode cX6_answer 50 = .ok (.aload_n 1, 1) := by decide +kernel
theorem dX6_answer_51 : decode cX6_answer 51 = .ok (.aload_n 2, 1) := by decide +kernel
theorem dX6_answer_52 : decode cX6_answer 52 = .ok (.iconst 0, 1) := by decide +kernel
theorem dX6_answer_53 : decode cX6_answer 53 = .ok (.invokestatic 140, 3) := by decide +kernel
theorem dX6_answer_56 : decode cX6_answer 56 = .ok (.ireturn, 1) := by decide +kernel
theorem dX6_answer_57 : decode cX6_answer 57 = .ok (.aload_n 1, 1) := by decide +kernel
theorem dX6_answer_58 : decode cX6_answer 58 = .ok (.aload_n 2, 1) := by decide +kernel
theorem dX6_answer_59 : decode cX6_answer 59 = .ok (.iconst 1, 1) := by decide +kernel
theorem dX6_answer_60 : decode cX6_answer 60 = .ok (.invokestatic 140, 3) := by decide +kernel
theorem dX6_answer_63 : decode cX6_answer 63 = .ok (.ireturn, 1) := by decide +kernel
theorem dX6_answer_64 : decode cX6_answer 64 = .ok (.aload_n 1, 1) := by decide +kernel
theorem dX6_answer_65 : decode cX6_answer 65 = .ok (.aload_n 2, 1) := by decide +kernel
theorem dX6_answer_66 : decode cX6_answer 66 = .ok (.invokestatic 269, 3) := by decide +kernel
theorem dX6_answer_69 : decode cX6_answer 69 = .ok (.ireturn, 1) := by decide +kernel
theorem dX7_init_0 : decode cX7_init 0 = .ok (.aload_n 0, 1) := by decide +kernel
theorem dX7_init_1 : decode cX7_init 1 = .ok (.invokespecial 1, 3) := by decide +kernel
theorem dX7_init_4 : decode cX7_init 4 = .ok (.aload_n 0, 1) := by decide +kernel
theorem dX7_init_5 : decode cX7_init 5 = .ok (.sipush 512, 3) := by decide +kernel
theorem dX7_init_8 : decode cX7_init 8 = .ok (.newarray .long, 2) := by decide +kernel
theorem dX7_init_10 : decode cX7_init 10 = .ok (.putfield 7, 3) := by decide +kernel
theorem dX7_init_13 : decode cX7_init 13 = .ok (.aload_n 0, 1) := by decide +kernel
theorem dX7_init_14 : decode cX7_init 14 = .ok (.bipush 16, 2) := by decide +kernel
theorem dX7_init_16 : decode cX7_init 16 = .ok (.newarray .int, 2) := by decide +kernel
theorem dX7_init_18 : decode cX7_init 18 = .ok (.putfield 13, 3) := by decide +kernel
theorem dX7_init_21 : decode cX7_init 21 = .ok (.aload_n 0, 1) := by decide +kernel
theorem dX7_init_22 : decode cX7_init 22 = .ok (.bipush 12, 2) := by decide +kernel
theorem dX7_init_24 : decode cX7_init 24 = .ok (.newarray .int, 2) := by decide +kernel
theorem dX7_init_26 : decode cX7_init 26 = .ok (.putfield 17, 3) := by decide +kernel
theorem dX7_init_29 : decode cX7_init 29 = .ok (.aload_n 0, 1) := by decide +kernel
theorem dX7_init_30 : decode cX7_init 30 = .ok (.bipush 12, 2) := by decide +kernel
theorem dX7_init_32 : decode cX7_init 32 = .ok (.newarray .int, 2) := by decide +kernel
theorem dX7_init_34 : decode cX7_init 34 = .ok (.putfield 20, 3) := by decide +kernel
theorem dX7_init_37 : decode cX7_init 37 = .ok (.aload_n 0, 1) := by decide +kernel
theorem dX7_init_38 : decode cX7_init 38 = .ok (.bipush 12, 2) := by decide +kernel
theorem dX7_init_40 : decode cX7_init 40 = .ok (.newarray .int, 2) := by decide +kernel
theorem dX7_init_42 : decode cX7_init 42 = .ok (.putfield 23, 3) := by decide +kernel
theorem dX7_init_45 : decode cX7_init 45 = .ok (.aload_n 0, 1) := by decide +kernel
theorem dX7_init_46 : decode cX7_init 46 = .ok (.bipush 12, 2) := by decide +kernel
theorem dX7_init_48 : decode cX7_init 48 = .ok (.newarray .int, 2) := by decide +kernel
theorem dX7_init_50 : decode cX7_init 50 = .ok (.putfield 26, 3) := by decide +kernel
theorem dX7_init_53 : decode cX7_init 53 = .ok (.return_, 1) := by decide +kernel
theorem dX7_thrown_0 : decode cX7_thrown 0 = .ok (.aload_n 0, 1) := by decide +kernel
theorem dX7_thrown_1 : decode cX7_thrown 1 = .ok (.getfield 29, 3) := by decide +kernel
theorem dX7_thrown_4 : decode cX7_thrown 4 = .ok (.ireturn, 1) := by decide +kernel
theorem dX7_fails_0 : decode cX7_fails 0 = .ok (.aload_n 0, 1) := by decide +kernel
theorem dX7_fails_1 : decode cX7_fails 1 = .ok (.iload_n 1, 1) := by decide +kernel
theorem dX7_fails_2 : decode cX7_fails 2 = .ok (.putfield 29, 3) := by decide +kernel
theorem dX7_fails_5 : decode cX7_fails 5 = .ok (.iload_n 1, 1) := by decide +kernel
theorem dX7_fails_6 : decode cX7_fails 6 = .ok (.ifCond .le 7, 3) := by decide +kernel
theorem dX7_fails_9 : decode cX7_fails 9 = .ok (.iconst 1, 1) := by decide +kernel
theorem dX7_fails_10 : decode cX7_fails 10 = .ok (.goto 4, 3) := by decide +kernel
theorem dX7_fails_13 : decode cX7_fails 13 = .ok (.iconst 0, 1) := by decide +kernel
theorem dX7_fails_14 : decode cX7_fails 14 = .ok (.ireturn, 1) := by decide +kernel
theorem dX7_in_0 : decode cX7_in 0 = .ok (.lload_n 0, 1) := by decide +kernel
theorem dX7_in_1 : decode cX7_in 1 = .ok (.lload_n 2, 1) := by decide +kernel
theorem dX7_in_2 : decode cX7_in 2 = .ok (.lcmp, 1) := by decide +kernel
theorem dX7_in_3 : decode cX7_in 3 = .ok (.ifCond .lt 14, 3) := by decide +kernel
theorem dX7_in_6 : decode cX7_in 6 = .ok (.lload_n 0, 1) := by decide +kernel
theorem dX7_in_7 : decode cX7_in 7 = .ok (.lload 4, 2) := by decide +kernel
theorem dX7_in_9 : decode cX7_in 9 = .ok (.lcmp, 1) := by decide +kernel
theorem dX7_in_10 : decode cX7_in 10 = .ok (.ifCond .gt 7, 3) := by decide +kernel
theorem dX7_in_13 : decode cX7_in 13 = .ok (.iconst 1, 1) := by decide +kernel
theorem dX7_in_14 : decode cX7_in 14 = .ok (.goto 4, 3) := by decide +kernel
theorem dX7_in_17 : decode cX7_in 17 = .ok (.iconst 0, 1) := by decide +kernel
theorem dX7_in_18 : decode cX7_in 18 = .ok (.ireturn, 1) := by decide +kernel
theorem dX7_kindOf_0 : decode cX7_kindOf 0 = .ok (.iload_n 0, 1) := by decide +kernel
theorem dX7_kindOf_1 : decode cX7_kindOf 1 = .ok (.bipush 98, 2) := by decide +kernel
theorem dX7_kindOf_3 : decode cX7_kindOf 3 = .ok (.if_icmp .ne 7, 3) := by decide +kernel
theorem dX7_kindOf_6 : decode cX7_kindOf 6 = .ok (.iconst 0, 1) := by decide +kernel
theorem dX7_kindOf_7 : decode cX7_kindOf 7 = .ok (.goto 34, 3) := by decide +kernel
theorem dX7_kindOf_10 : decode cX7_kindOf 10 = .ok (.iload_n 0, 1) := by decide +kernel
theorem dX7_kindOf_11 : decode cX7_kindOf 11 = .ok (.bipush 115, 2) := by decide +kernel
theorem dX7_kindOf_13 : decode cX7_kindOf 13 = .ok (.if_icmp .ne 7, 3) := by decide +kernel
theorem dX7_kindOf_16 : decode cX7_kindOf 16 = .ok (.iconst 1, 1) := by decide +kernel
theorem dX7_kindOf_17 : decode cX7_kindOf 17 = .ok (.goto 24, 3) := by decide +kernel
theorem dX7_kindOf_20 : decode cX7_kindOf 20 = .ok (.iload_n 0, 1) := by decide +kernel
theorem dX7_kindOf_21 : decode cX7_kindOf 21 = .ok (.bipush 105, 2) := by decide +kernel
theorem dX7_kindOf_23 : decode cX7_kindOf 23 = .ok (.if_icmp .ne 7, 3) := by decide +kernel
theorem dX7_kindOf_26 : decode cX7_kindOf 26 = .ok (.iconst 2, 1) := by decide +kernel
theorem dX7_kindOf_27 : decode cX7_kindOf 27 = .ok (.goto 14, 3) := by decide +kernel
theorem dX7_kindOf_30 : decode cX7_kindOf 30 = .ok (.iload_n 0, 1) := by decide +kernel

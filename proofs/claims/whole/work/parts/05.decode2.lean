theorem dX7_kindOf_31 : decode cX7_kindOf 31 = .ok (.bipush 108, 2) := by decide +kernel
theorem dX7_kindOf_33 : decode cX7_kindOf 33 = .ok (.if_icmp .ne 7, 3) := by decide +kernel
theorem dX7_kindOf_36 : decode cX7_kindOf 36 = .ok (.iconst 3, 1) := by decide +kernel
theorem dX7_kindOf_37 : decode cX7_kindOf 37 = .ok (.goto 4, 3) := by decide +kernel
theorem dX7_kindOf_40 : decode cX7_kindOf 40 = .ok (.iconst (-1), 1) := by decide +kernel
theorem dX7_kindOf_41 : decode cX7_kindOf 41 = .ok (.ireturn, 1) := by decide +kernel
theorem dX7_isKind_0 : decode cX7_isKind 0 = .ok (.iload_n 0, 1) := by decide +kernel
theorem dX7_isKind_1 : decode cX7_isKind 1 = .ok (.invokestatic 33, 3) := by decide +kernel
theorem dX7_isKind_4 : decode cX7_isKind 4 = .ok (.ifCond .lt 7, 3) := by decide +kernel
theorem dX7_isKind_7 : decode cX7_isKind 7 = .ok (.iconst 1, 1) := by decide +kernel
theorem dX7_isKind_8 : decode cX7_isKind 8 = .ok (.goto 4, 3) := by decide +kernel
theorem dX7_isKind_11 : decode cX7_isKind 11 = .ok (.iconst 0, 1) := by decide +kernel
theorem dX7_isKind_12 : decode cX7_isKind 12 = .ok (.ireturn, 1) := by decide +kernel
theorem dX7_isOrder_0 : decode cX7_isOrder 0 = .ok (.iload_n 0, 1) := by decide +kernel
theorem dX7_isOrder_1 : decode cX7_isOrder 1 = .ok (.bipush 115, 2) := by decide +kernel
theorem dX7_isOrder_3 : decode cX7_isOrder 3 = .ok (.if_icmp .eq 9, 3) := by decide +kernel
theorem dX7_isOrder_6 : decode cX7_isOrder 6 = .ok (.iload_n 0, 1) := by decide +kernel
theorem dX7_isOrder_7 : decode cX7_isOrder 7 = .ok (.bipush 117, 2) := by decide +kernel
theorem dX7_isOrder_9 : decode cX7_isOrder 9 = .ok (.if_icmp .ne 7, 3) := by decide +kernel
theorem dX7_isOrder_12 : decode cX7_isOrder 12 = .ok (.iconst 1, 1) := by decide +kernel
theorem dX7_isOrder_13 : decode cX7_isOrder 13 = .ok (.goto 4, 3) := by decide +kernel
theorem dX7_isOrder_16 : decode cX7_isOrder 16 = .ok (.iconst 0, 1) := by decide +kernel
theorem dX7_isOrder_17 : decode cX7_isOrder 17 = .ok (.ireturn, 1) := by decide +kernel
theorem dX7_isAsk_0 : decode cX7_isAsk 0 = .ok (.iload_n 0, 1) := by decide +kernel
theorem dX7_isAsk_1 : decode cX7_isAsk 1 = .ok (.bipush 101, 2) := by decide +kernel
theorem dX7_isAsk_3 : decode cX7_isAsk 3 = .ok (.if_icmp .eq 21, 3) := by decide +kernel
theorem dX7_isAsk_6 : decode cX7_isAsk 6 = .ok (.iload_n 0, 1) := by decide +kernel
theorem dX7_isAsk_7 : decode cX7_isAsk 7 = .ok (.bipush 99, 2) := by decide +kernel
theorem dX7_isAsk_9 : decode cX7_isAsk 9 = .ok (.if_icmp .eq 15, 3) := by decide +kernel
theorem dX7_isAsk_12 : decode cX7_isAsk 12 = .ok (.iload_n 0, 1) := by decide +kernel
theorem dX7_isAsk_13 : decode cX7_isAsk 13 = .ok (.bipush 117, 2) := by decide +kernel
theorem dX7_isAsk_15 : decode cX7_isAsk 15 = .ok (.if_icmp .eq 9, 3) := by decide +kernel
theorem dX7_isAsk_18 : decode cX7_isAsk 18 = .ok (.iload_n 0, 1) := by decide +kernel
theorem dX7_isAsk_19 : decode cX7_isAsk 19 = .ok (.bipush 109, 2) := by decide +kernel
theorem dX7_isAsk_21 : decode cX7_isAsk 21 = .ok (.if_icmp .ne 7, 3) := by decide +kernel
theorem dX7_isAsk_24 : decode cX7_isAsk 24 = .ok (.iconst 1, 1) := by decide +kernel
theorem dX7_isAsk_25 : decode cX7_isAsk 25 = .ok (.goto 4, 3) := by decide +kernel
theorem dX7_isAsk_28 : decode cX7_isAsk 28 = .ok (.iconst 0, 1) := by decide +kernel
theorem dX7_isAsk_29 : decode cX7_isAsk 29 = .ok (.ireturn, 1) := by decide +kernel
theorem dX7_isRow_0 : decode cX7_isRow 0 = .ok (.iload_n 0, 1) := by decide +kernel
theorem dX7_isRow_1 : decode cX7_isRow 1 = .ok (.i2l, 1) := by decide +kernel
theorem dX7_isRow_2 : decode cX7_isRow 2 = .ok (.lconst 0, 1) := by decide +kernel
theorem dX7_isRow_3 : decode cX7_isRow 3 = .ok (.ldc2_w 37, 3) := by decide +kernel
theorem dX7_isRow_6 : decode cX7_isRow 6 = .ok (.invokestatic 39, 3) := by decide +kernel
theorem dX7_isRow_9 : decode cX7_isRow 9 = .ok (.ireturn, 1) := by decide +kernel
theorem dX7_isSpan_0 : decode cX7_isSpan 0 = .ok (.iload_n 0, 1) := by decide +kernel
theorem dX7_isSpan_1 : decode cX7_isSpan 1 = .ok (.i2l, 1) := by decide +kernel
theorem dX7_isSpan_2 : decode cX7_isSpan 2 = .ok (.lconst 0, 1) := by decide +kernel
theorem dX7_isSpan_3 : decode cX7_isSpan 3 = .ok (.ldc2_w 43, 3) := by decide +kernel
theorem dX7_isSpan_6 : decode cX7_isSpan 6 = .ok (.invokestatic 39, 3) := by decide +kernel
theorem dX7_isSpan_9 : decode cX7_isSpan 9 = .ok (.ireturn, 1) := by decide +kernel
theorem dX7_isOf_0 : decode cX7_isOf 0 = .ok (.iload_n 0, 1) := by decide +kernel
theorem dX7_isOf_1 : decode cX7_isOf 1 = .ok (.iconst 3, 1) := by decide +kernel
theorem dX7_isOf_2 : decode cX7_isOf 2 = .ok (.if_icmp .eq 52, 3) := by decide +kernel
theorem dX7_isOf_5 : decode cX7_isOf 5 = .ok (.iload_n 0, 1) := by decide +kernel
theorem dX7_isOf_6 : decode cX7_isOf 6 = .ok (.iconst 2, 1) := by decide +kernel
theorem dX7_isOf_7 : decode cX7_isOf 7 = .ok (.if_icmp .ne 16, 3) := by decide +kernel
theorem dX7_isOf_10 : decode cX7_isOf 10 = .ok (.lload_n 1, 1) := by decide +kernel
theorem dX7_isOf_11 : decode cX7_isOf 11 = .ok (.ldc2_w 45, 3) := by decide +kernel
theorem dX7_isOf_14 : decode cX7_isOf 14 = .ok (.ldc2_w 47, 3) := by decide +kernel
theorem dX7_isOf_17 : decode cX7_isOf 17 = .ok (.invokestatic 39, 3) := by decide +kernel
theorem dX7_isOf_20 : decode cX7_isOf 20 = .ok (.ifCond .ne 34, 3) := by decide +kernel
theorem dX7_isOf_23 : decode cX7_isOf 23 = .ok (.iload_n 0, 1) := by decide +kernel
theorem dX7_isOf_24 : decode cX7_isOf 24 = .ok (.iconst 1, 1) := by decide +kernel
theorem dX7_isOf_25 : decode cX7_isOf 25 = .ok (.if_icmp .ne 16, 3) := by decide +kernel
theorem dX7_isOf_28 : decode cX7_isOf 28 = .ok (.lload_n 1, 1) := by decide +kernel
theorem dX7_isOf_29 : decode cX7_isOf 29 = .ok (.ldc2_w 49, 3) := by decide +kernel
theorem dX7_isOf_32 : decode cX7_isOf 32 = .ok (.ldc2_w 51, 3) := by decide +kernel
theorem dX7_isOf_35 : decode cX7_isOf 35 = .ok (.invokestatic 39, 3) := by decide +kernel
theorem dX7_isOf_38 : decode cX7_isOf 38 = .ok (.ifCond .ne 16, 3) := by decide +kernel
theorem dX7_isOf_41 : decode cX7_isOf 41 = .ok (.lload_n 1, 1) := by decide +kernel
theorem dX7_isOf_42 : decode cX7_isOf 42 = .ok (.ldc2_w 53, 3) := by decide +kernel
theorem dX7_isOf_45 : decode cX7_isOf 45 = .ok (.ldc2_w 55, 3) := by decide +kernel
theorem dX7_isOf_48 : decode cX7_isOf 48 = .ok (.invokestatic 39, 3) := by decide +kernel
theorem dX7_isOf_51 : decode cX7_isOf 51 = .ok (.ifCond .eq 7, 3) := by decide +kernel
theorem dX7_isOf_54 : decode cX7_isOf 54 = .ok (.iconst 1, 1) := by decide +kernel
theorem dX7_isOf_55 : decode cX7_isOf 55 = .ok (.goto 4, 3) := by decide +kernel
theorem dX7_isOf_58 : decode cX7_isOf 58 = .ok (.iconst 0, 1) := by decide +kernel
theorem dX7_isOf_59 : decode cX7_isOf 59 = .ok (.ireturn, 1) := by decide +kernel
theorem dX7_size_0 : decode cX7_size 0 = .ok (.aload_n 0, 1) := by decide +kernel
theorem dX7_size_1 : decode cX7_size 1 = .ok (.getfield 13, 3) := by decide +kernel
theorem dX7_size_4 : decode cX7_size 4 = .ok (.iconst 4, 1) := by decide +kernel
theorem dX7_size_5 : decode cX7_size 5 = .ok (.iload_n 1, 1) := by decide +kernel
theorem dX7_size_6 : decode cX7_size 6 = .ok (.invokestatic 33, 3) := by decide +kernel
theorem dX7_size_9 : decode cX7_size 9 = .ok (.imul, 1) := by decide +kernel
theorem dX7_size_10 : decode cX7_size 10 = .ok (.iload_n 2, 1) := by decide +kernel
theorem dX7_size_11 : decode cX7_size 11 = .ok (.iadd, 1) := by decide +kernel
theorem dX7_size_12 : decode cX7_size 12 = .ok (.iaload, 1) := by decide +kernel
theorem dX7_size_13 : decode cX7_size 13 = .ok (.ireturn, 1) := by decide +kernel
theorem dX7_at_0 : decode cX7_at 0 = .ok (.bipush 32, 2) := by decide +kernel
theorem dX7_at_2 : decode cX7_at 2 = .ok (.iconst 4, 1) := by decide +kernel
theorem dX7_at_3 : decode cX7_at 3 = .ok (.iload_n 1, 1) := by decide +kernel
theorem dX7_at_4 : decode cX7_at 4 = .ok (.invokestatic 33, 3) := by decide +kernel
theorem dX7_at_7 : decode cX7_at 7 = .ok (.imul, 1) := by decide +kernel
theorem dX7_at_8 : decode cX7_at 8 = .ok (.iload_n 2, 1) := by decide +kernel
theorem dX7_at_9 : decode cX7_at 9 = .ok (.iadd, 1) := by decide +kernel
theorem dX7_at_10 : decode cX7_at 10 = .ok (.imul, 1) := by decide +kernel
theorem dX7_at_11 : decode cX7_at 11 = .ok (.iload_n 3, 1) := by decide +kernel
theorem dX7_at_12 : decode cX7_at 12 = .ok (.iadd, 1) := by decide +kernel
theorem dX7_at_13 : decode cX7_at 13 = .ok (.ireturn, 1) := by decide +kernel
theorem dX7_resize_0 : decode cX7_resize 0 = .ok (.aload_n 0, 1) := by decide +kernel
theorem dX7_resize_1 : decode cX7_resize 1 = .ok (.getfield 13, 3) := by decide +kernel
theorem dX7_resize_4 : decode cX7_resize 4 = .ok (.iconst 4, 1) := by decide +kernel
theorem dX7_resize_5 : decode cX7_resize 5 = .ok (.iload_n 1, 1) := by decide +kernel
theorem dX7_resize_6 : decode cX7_resize 6 = .ok (.invokestatic 33, 3) := by decide +kernel
theorem dX7_resize_9 : decode cX7_resize 9 = .ok (.imul, 1) := by decide +kernel
theorem dX7_resize_10 : decode cX7_resize 10 = .ok (.iload_n 2, 1) := by decide +kernel
theorem dX7_resize_11 : decode cX7_resize 11 = .ok (.iadd, 1) := by decide +kernel
theorem dX7_resize_12 : decode cX7_resize 12 = .ok (.iload_n 3, 1) := by decide +kernel
theorem dX7_resize_13 : decode cX7_resize 13 = .ok (.iastore, 1) := by decide +kernel
theorem dX7_resize_14 : decode cX7_resize 14 = .ok (.return_, 1) := by decide +kernel
theorem dX7_noRow_0 : decode cX7_noRow 0 = .ok (.iload_n 1, 1) := by decide +kernel
theorem dX7_noRow_1 : decode cX7_noRow 1 = .ok (.invokestatic 57, 3) := by decide +kernel
theorem dX7_noRow_4 : decode cX7_noRow 4 = .ok (.ifCond .ne 7, 3) := by decide +kernel
theorem dX7_noRow_7 : decode cX7_noRow 7 = .ok (.iconst 1, 1) := by decide +kernel
theorem dX7_noRow_8 : decode cX7_noRow 8 = .ok (.goto 15, 3) := by decide +kernel
theorem dX7_noRow_11 : decode cX7_noRow 11 = .ok (.iload_n 2, 1) := by decide +kernel
theorem dX7_noRow_12 : decode cX7_noRow 12 = .ok (.invokestatic 61, 3) := by decide +kernel
theorem dX7_noRow_15 : decode cX7_noRow 15 = .ok (.ifCond .eq 7, 3) := by decide +kernel
theorem dX7_noRow_18 : decode cX7_noRow 18 = .ok (.iconst 0, 1) := by decide +kernel
theorem dX7_noRow_19 : decode cX7_noRow 19 = .ok (.goto 4, 3) := by decide +kernel
theorem dX7_noRow_22 : decode cX7_noRow 22 = .ok (.iconst 2, 1) := by decide +kernel
theorem dX7_noRow_23 : decode cX7_noRow 23 = .ok (.ireturn, 1) := by decide +kernel
theorem dX7_append_0 : decode cX7_append 0 = .ok (.aload_n 0, 1) := by decide +kernel
theorem dX7_append_1 : decode cX7_append 1 = .ok (.iload_n 1, 1) := by decide +kernel
theorem dX7_append_2 : decode cX7_append 2 = .ok (.invokestatic 57, 3) := by decide +kernel
theorem dX7_append_5 : decode cX7_append 5 = .ok (.ifCond .eq 14, 3) := by decide +kernel
theorem dX7_append_8 : decode cX7_append 8 = .ok (.iload_n 1, 1) := by decide +kernel
theorem dX7_append_9 : decode cX7_append 9 = .ok (.invokestatic 33, 3) := by decide +kernel
theorem dX7_append_12 : decode cX7_append 12 = .ok (.lload_n 3, 1) := by decide +kernel
theorem dX7_append_13 : decode cX7_append 13 = .ok (.invokestatic 65, 3) := by decide +kernel
theorem dX7_append_16 : decode cX7_append 16 = .ok (.ifCond .ne 7, 3) := by decide +kernel
theorem dX7_append_19 : decode cX7_append 19 = .ok (.iconst 1, 1) := by decide +kernel
theorem dX7_append_20 : decode cX7_append 20 = .ok (.goto 30, 3) := by decide +kernel
theorem dX7_append_23 : decode cX7_append 23 = .ok (.iload_n 2, 1) := by decide +kernel
theorem dX7_append_24 : decode cX7_append 24 = .ok (.invokestatic 61, 3) := by decide +kernel
theorem dX7_append_27 : decode cX7_append 27 = .ok (.ifCond .ne 7, 3) := by decide +kernel
theorem dX7_append_30 : decode cX7_append 30 = .ok (.iconst 2, 1) := by decide +kernel
theorem dX7_append_31 : decode cX7_append 31 = .ok (.goto 19, 3) := by decide +kernel
theorem dX7_append_34 : decode cX7_append 34 = .ok (.aload_n 0, 1) := by decide +kernel
theorem dX7_append_35 : decode cX7_append 35 = .ok (.iload_n 1, 1) := by decide +kernel
theorem dX7_append_36 : decode cX7_append 36 = .ok (.iload_n 2, 1) := by decide +kernel
theorem dX7_append_37 : decode cX7_append 37 = .ok (.invokevirtual 69, 3) := by decide +kernel
theorem dX7_append_40 : decode cX7_append 40 = .ok (.bipush 32, 2) := by decide +kernel
theorem dX7_append_42 : decode cX7_append 42 = .ok (.if_icmp .ne 7, 3) := by decide +kernel
theorem dX7_append_45 : decode cX7_append 45 = .ok (.iconst 3, 1) := by decide +kernel
theorem dX7_append_46 : decode cX7_append 46 = .ok (.goto 4, 3) := by decide +kernel
theorem dX7_append_49 : decode cX7_append 49 = .ok (.iconst 0, 1) := by decide +kernel
theorem dX7_append_50 : decode cX7_append 50 = .ok (.invokevirtual 73, 3) := by decide +kernel
theorem dX7_append_53 : decode cX7_append 53 = .ok (.ifCond .eq 5, 3) := by decide +kernel
theorem dX7_append_56 : decode cX7_append 56 = .ok (.iconst 0, 1) := by decide +kernel
theorem dX7_append_57 : decode cX7_append 57 = .ok (.ireturn, 1) := by decide +kernel
theorem dX7_append_58 : decode cX7_append 58 = .ok (.aload_n 0, 1) := by decide +kernel
theorem dX7_append_59 : decode cX7_append 59 = .ok (.getfield 7, 3) := by decide +kernel
theorem dX7_append_62 : decode cX7_append 62 = .ok (.aload_n 0, 1) := by decide +kernel
theorem dX7_append_63 : decode cX7_append 63 = .ok (.iload_n 1, 1) := by decide +kernel
theorem dX7_append_64 : decode cX7_append 64 = .ok (.iload_n 2, 1) := by decide +kernel
theorem dX7_append_65 : decode cX7_append 65 = .ok (.aload_n 0, 1) := by decide +kernel
theorem dX7_append_66 : decode cX7_append 66 = .ok (.iload_n 1, 1) := by decide +kernel
theorem dX7_append_67 : decode cX7_append 67 = .ok (.iload_n 2, 1) := by decide +kernel
theorem dX7_append_68 : decode cX7_append 68 = .ok (.invokevirtual 69, 3) := by decide +kernel
theorem dX7_append_71 : decode cX7_append 71 = .ok (.invokevirtual 76, 3) := by decide +kernel
theorem dX7_append_74 : decode cX7_append 74 = .ok (.lload_n 3, 1) := by decide +kernel
theorem dX7_append_75 : decode cX7_append 75 = .ok (.lastore, 1) := by decide +kernel
theorem dX7_append_76 : decode cX7_append 76 = .ok (.aload_n 0, 1) := by decide +kernel
theorem dX7_append_77 : decode cX7_append 77 = .ok (.iload_n 1, 1) := by decide +kernel
theorem dX7_append_78 : decode cX7_append 78 = .ok (.iload_n 2, 1) := by decide +kernel
theorem dX7_append_79 : decode cX7_append 79 = .ok (.aload_n 0, 1) := by decide +kernel
theorem dX7_append_80 : decode cX7_append 80 = .ok (.iload_n 1, 1) := by decide +kernel
theorem dX7_append_81 : decode cX7_append 81 = .ok (.iload_n 2, 1) := by decide +kernel
theorem dX7_append_82 : decode cX7_append 82 = .ok (.invokevirtual 69, 3) := by decide +kernel
theorem dX7_append_85 : decode cX7_append 85 = .ok (.iconst 1, 1) := by decide +kernel
theorem dX7_append_86 : decode cX7_append 86 = .ok (.iadd, 1) := by decide +kernel
theorem dX7_append_87 : decode cX7_append 87 = .ok (.invokevirtual 80, 3) := by decide +kernel
theorem dX7_append_90 : decode cX7_append 90 = .ok (.aload_n 0, 1) := by decide +kernel
theorem dX7_append_91 : decode cX7_append 91 = .ok (.iload_n 1, 1) := by decide +kernel
theorem dX7_append_92 : decode cX7_append 92 = .ok (.iload_n 2, 1) := by decide +kernel
theorem dX7_append_93 : decode cX7_append 93 = .ok (.invokevirtual 69, 3) := by decide +kernel
theorem dX7_append_96 : decode cX7_append 96 = .ok (.ireturn, 1) := by decide +kernel
theorem dX7_set_0 : decode cX7_set 0 = .ok (.aload_n 0, 1) := by decide +kernel
theorem dX7_set_1 : decode cX7_set 1 = .ok (.iload_n 1, 1) := by decide +kernel
theorem dX7_set_2 : decode cX7_set 2 = .ok (.invokestatic 57, 3) := by decide +kernel
theorem dX7_set_5 : decode cX7_set 5 = .ok (.ifCond .eq 15, 3) := by decide +kernel
theorem dX7_set_8 : decode cX7_set 8 = .ok (.iload_n 1, 1) := by decide +kernel
theorem dX7_set_9 : decode cX7_set 9 = .ok (.invokestatic 33, 3) := by decide +kernel
theorem dX7_set_12 : decode cX7_set 12 = .ok (.lload 4, 2) := by decide +kernel
theorem dX7_set_14 : decode cX7_set 14 = .ok (.invokestatic 65, 3) := by decide +kernel
theorem dX7_set_17 : decode cX7_set 17 = .ok (.ifCond .ne 7, 3) := by decide +kernel
theorem dX7_set_20 : decode cX7_set 20 = .ok (.iconst 1, 1) := by decide +kernel
theorem dX7_set_21 : decode cX7_set 21 = .ok (.goto 33, 3) := by decide +kernel
theorem dX7_set_24 : decode cX7_set 24 = .ok (.iload_n 2, 1) := by decide +kernel
theorem dX7_set_25 : decode cX7_set 25 = .ok (.invokestatic 61, 3) := by decide +kernel
theorem dX7_set_28 : decode cX7_set 28 = .ok (.ifCond .eq 21, 3) := by decide +kernel
theorem dX7_set_31 : decode cX7_set 31 = .ok (.iload_n 3, 1) := by decide +kernel
theorem dX7_set_32 : decode cX7_set 32 = .ok (.i2l, 1) := by decide +kernel
theorem dX7_set_33 : decode cX7_set 33 = .ok (.lconst 0, 1) := by decide +kernel
theorem dX7_set_34 : decode cX7_set 34 = .ok (.aload_n 0, 1) := by decide +kernel
theorem dX7_set_35 : decode cX7_set 35 = .ok (.iload_n 1, 1) := by decide +kernel
theorem dX7_set_36 : decode cX7_set 36 = .ok (.iload_n 2, 1) := by decide +kernel
theorem dX7_set_37 : decode cX7_set 37 = .ok (.invokevirtual 69, 3) := by decide +kernel
theorem dX7_set_40 : decode cX7_set 40 = .ok (.iconst 1, 1) := by decide +kernel
theorem dX7_set_41 : decode cX7_set 41 = .ok (.isub, 1) := by decide +kernel
theorem dX7_set_42 : decode cX7_set 42 = .ok (.i2l, 1) := by decide +kernel
theorem dX7_set_43 : decode cX7_set 43 = .ok (.invokestatic 39, 3) := by decide +kernel
theorem dX7_set_46 : decode cX7_set 46 = .ok (.ifCond .ne 7, 3) := by decide +kernel
theorem dX7_set_49 : decode cX7_set 49 = .ok (.iconst 2, 1) := by decide +kernel
theorem dX7_set_50 : decode cX7_set 50 = .ok (.goto 4, 3) := by decide +kernel
theorem dX7_set_53 : decode cX7_set 53 = .ok (.iconst 0, 1) := by decide +kernel
theorem dX7_set_54 : decode cX7_set 54 = .ok (.invokevirtual 73, 3) := by decide +kernel
theorem dX7_set_57 : decode cX7_set 57 = .ok (.ifCond .eq 5, 3) := by decide +kernel
theorem dX7_set_60 : decode cX7_set 60 = .ok (.lconst 0, 1) := by decide +kernel
theorem dX7_set_61 : decode cX7_set 61 = .ok (.lreturn, 1) := by decide +kernel
theorem dX7_set_62 : decode cX7_set 62 = .ok (.aload_n 0, 1) := by decide +kernel
theorem dX7_set_63 : decode cX7_set 63 = .ok (.getfield 7, 3) := by decide +kernel
theorem dX7_set_66 : decode cX7_set 66 = .ok (.aload_n 0, 1) := by decide +kernel
theorem dX7_set_67 : decode cX7_set 67 = .ok (.iload_n 1, 1) := by decide +kernel
theorem dX7_set_68 : decode cX7_set 68 = .ok (.iload_n 2, 1) := by decide +kernel
theorem dX7_set_69 : decode cX7_set 69 = .ok (.iload_n 3, 1) := by decide +kernel
theorem dX7_set_70 : decode cX7_set 70 = .ok (.invokevirtual 76, 3) := by decide +kernel
theorem dX7_set_73 : decode cX7_set 73 = .ok (.laload, 1) := by decide +kernel
theorem dX7_set_74 : decode cX7_set 74 = .ok (.lstore 6, 2) := by decide +kernel
theorem dX7_set_76 : decode cX7_set 76 = .ok (.aload_n 0, 1) := by decide +kernel
theorem dX7_set_77 : decode cX7_set 77 = .ok (.getfield 7, 3) := by decide +kernel
theorem dX7_set_80 : decode cX7_set 80 = .ok (.aload_n 0, 1) := by decide +kernel
theorem dX7_set_81 : decode cX7_set 81 = .ok (.iload_n 1, 1) := by decide +kernel
theorem dX7_set_82 : decode cX7_set 82 = .ok (.iload_n 2, 1) := by decide +kernel
theorem dX7_set_83 : decode cX7_set 83 = .ok (.iload_n 3, 1) := by decide +kernel
theorem dX7_set_84 : decode cX7_set 84 = .ok (.invokevirtual 76, 3) := by decide +kernel
theorem dX7_set_87 : decode cX7_set 87 = .ok (.lload 4, 2) := by decide +kernel
theorem dX7_set_89 : decode cX7_set 89 = .ok (.lastore, 1) := by decide +kernel
theorem dX7_set_90 : decode cX7_set 90 = .ok (.lload 6, 2) := by decide +kernel
theorem dX7_set_92 : decode cX7_set 92 = .ok (.lreturn, 1) := by decide +kernel
theorem dX7_number_0 : decode cX7_number 0 = .ok (.aload_n 0, 1) := by decide +kernel
theorem dX7_number_1 : decode cX7_number 1 = .ok (.iload_n 1, 1) := by decide +kernel
theorem dX7_number_2 : decode cX7_number 2 = .ok (.invokestatic 57, 3) := by decide +kernel
theorem dX7_number_5 : decode cX7_number 5 = .ok (.ifCond .ne 7, 3) := by decide +kernel
theorem dX7_number_8 : decode cX7_number 8 = .ok (.iconst 1, 1) := by decide +kernel
theorem dX7_number_9 : decode cX7_number 9 = .ok (.goto 33, 3) := by decide +kernel
theorem dX7_number_12 : decode cX7_number 12 = .ok (.iload_n 2, 1) := by decide +kernel
theorem dX7_number_13 : decode cX7_number 13 = .ok (.invokestatic 61, 3) := by decide +kernel
theorem dX7_number_16 : decode cX7_number 16 = .ok (.ifCond .eq 21, 3) := by decide +kernel
theorem dX7_number_19 : decode cX7_number 19 = .ok (.iload_n 3, 1) := by decide +kernel
theorem dX7_number_20 : decode cX7_number 20 = .ok (.i2l, 1) := by decide +kernel
theorem dX7_number_21 : decode cX7_number 21 = .ok (.lconst 0, 1) := by decide +kernel
theorem dX7_number_22 : decode cX7_number 22 = .ok (.aload_n 0, 1) := by decide +kernel
theorem dX7_number_23 : decode cX7_number 23 = .ok (.iload_n 1, 1) := by decide +kernel
theorem dX7_number_24 : decode cX7_number 24 = .ok (.iload_n 2, 1) := by decide +kernel
theorem dX7_number_25 : decode cX7_number 25 = .ok (.invokevirtual 69, 3) := by decide +kernel
theorem dX7_number_28 : decode cX7_number 28 = .ok (.iconst 1, 1) := by decide +kernel
theorem dX7_number_29 : decode cX7_number 29 = .ok (.isub, 1) := by decide +kernel
theorem dX7_number_30 : decode cX7_number 30 = .ok (.i2l, 1) := by decide +kernel
theorem dX7_number_31 : decode cX7_number 31 = .ok (.invokestatic 39, 3) := by decide +kernel
theorem dX7_number_34 : decode cX7_number 34 = .ok (.ifCond .ne 7, 3) := by decide +kernel
theorem dX7_number_37 : decode cX7_number 37 = .ok (.iconst 2, 1) := by decide +kernel
theorem dX7_number_38 : decode cX7_number 38 = .ok (.goto 4, 3) := by decide +kernel
theorem dX7_number_41 : decode cX7_number 41 = .ok (.iconst 0, 1) := by decide +kernel
theorem dX7_number_42 : decode cX7_number 42 = .ok (.invokevirtual 73, 3) := by decide +kernel
theorem dX7_number_45 : decode cX7_number 45 = .ok (.ifCond .eq 5, 3) := by decide +kernel
theorem dX7_number_48 : decode cX7_number 48 = .ok (.lconst 0, 1) := by decide +kernel
theorem dX7_number_49 : decode cX7_number 49 = .ok (.lreturn, 1) := by decide +kernel
theorem dX7_number_50 : decode cX7_number 50 = .ok (.aload_n 0, 1) := by decide +kernel
theorem dX7_number_51 : decode cX7_number 51 = .ok (.getfield 7, 3) := by decide +kernel
theorem dX7_number_54 : decode cX7_number 54 = .ok (.aload_n 0, 1) := by decide +kernel
theorem dX7_number_55 : decode cX7_number 55 = .ok (.iload_n 1, 1) := by decide +kernel
theorem dX7_number_56 : decode cX7_number 56 = .ok (.iload_n 2, 1) := by decide +kernel
theorem dX7_number_57 : decode cX7_number 57 = .ok (.iload_n 3, 1) := by decide +kernel
theorem dX7_number_58 : decode cX7_number 58 = .ok (.invokevirtual 76, 3) := by decide +kernel
theorem dX7_number_61 : decode cX7_number 61 = .ok (.laload, 1) := by decide +kernel
theorem dX7_number_62 : decode cX7_number 62 = .ok (.lreturn, 1) := by decide +kernel
theorem dX7_length_0 : decode cX7_length 0 = .ok (.aload_n 0, 1) := by decide +kernel
theorem dX7_length_1 : decode cX7_length 1 = .ok (.aload_n 0, 1) := by decide +kernel
theorem dX7_length_2 : decode cX7_length 2 = .ok (.iload_n 1, 1) := by decide +kernel
theorem dX7_length_3 : decode cX7_length 3 = .ok (.iload_n 2, 1) := by decide +kernel
theorem dX7_length_4 : decode cX7_length 4 = .ok (.invokevirtual 84, 3) := by decide +kernel
theorem dX7_length_7 : decode cX7_length 7 = .ok (.invokevirtual 73, 3) := by decide +kernel
theorem dX7_length_10 : decode cX7_length 10 = .ok (.ifCond .eq 7, 3) := by decide +kernel
theorem dX7_length_13 : decode cX7_length 13 = .ok (.iconst 0, 1) := by decide +kernel
theorem dX7_length_14 : decode cX7_length 14 = .ok (.goto 9, 3) := by decide +kernel
theorem dX7_length_17 : decode cX7_length 17 = .ok (.aload_n 0, 1) := by decide +kernel
theorem dX7_length_18 : decode cX7_length 18 = .ok (.iload_n 1, 1) := by decide +kernel
theorem dX7_length_19 : decode cX7_length 19 = .ok (.iload_n 2, 1) := by decide +kernel
theorem dX7_length_20 : decode cX7_length 20 = .ok (.invokevirtual 69, 3) := by decide +kernel
theorem dX7_length_23 : decode cX7_length 23 = .ok (.ireturn, 1) := by decide +kernel
theorem dX7_clear_0 : decode cX7_clear 0 = .ok (.aload_n 0, 1) := by decide +kernel
theorem dX7_clear_1 : decode cX7_clear 1 = .ok (.aload_n 0, 1) := by decide +kernel
theorem dX7_clear_2 : decode cX7_clear 2 = .ok (.iload_n 1, 1) := by decide +kernel
theorem dX7_clear_3 : decode cX7_clear 3 = .ok (.iload_n 2, 1) := by decide +kernel
theorem dX7_clear_4 : decode cX7_clear 4 = .ok (.invokevirtual 84, 3) := by decide +kernel
theorem dX7_clear_7 : decode cX7_clear 7 = .ok (.invokevirtual 73, 3) := by decide +kernel
theorem dX7_clear_10 : decode cX7_clear 10 = .ok (.ifCond .eq 5, 3) := by decide +kernel
theorem dX7_clear_13 : decode cX7_clear 13 = .ok (.iconst 0, 1) := by decide +kernel
theorem dX7_clear_14 : decode cX7_clear 14 = .ok (.ireturn, 1) := by decide +kernel
theorem dX7_clear_15 : decode cX7_clear 15 = .ok (.aload_n 0, 1) := by decide +kernel
theorem dX7_clear_16 : decode cX7_clear 16 = .ok (.iload_n 1, 1) := by decide +kernel
theorem dX7_clear_17 : decode cX7_clear 17 = .ok (.iload_n 2, 1) := by decide +kernel
theorem dX7_clear_18 : decode cX7_clear 18 = .ok (.invokevirtual 69, 3) := by decide +kernel
theorem dX7_clear_21 : decode cX7_clear 21 = .ok (.istore_n 3, 1) := by decide +kernel
theorem dX7_clear_22 : decode cX7_clear 22 = .ok (.aload_n 0, 1) := by decide +kernel
theorem dX7_clear_23 : decode cX7_clear 23 = .ok (.iload_n 1, 1) := by decide +kernel
theorem dX7_clear_24 : decode cX7_clear 24 = .ok (.iload_n 2, 1) := by decide +kernel
theorem dX7_clear_25 : decode cX7_clear 25 = .ok (.iconst 0, 1) := by decide +kernel
theorem dX7_clear_26 : decode cX7_clear 26 = .ok (.invokevirtual 80, 3) := by decide +kernel
theorem dX7_clear_29 : decode cX7_clear 29 = .ok (.iload_n 3, 1) := by decide +kernel
theorem dX7_clear_30 : decode cX7_clear 30 = .ok (.ireturn, 1) := by decide +kernel
theorem dX7_repeat_0 : decode cX7_repeat 0 = .ok (.aload_n 0, 1) := by decide +kernel
theorem dX7_repeat_1 : decode cX7_repeat 1 = .ok (.iload_n 1, 1) := by decide +kernel
theorem dX7_repeat_2 : decode cX7_repeat 2 = .ok (.invokestatic 57, 3) := by decide +kernel
theorem dX7_repeat_5 : decode cX7_repeat 5 = .ok (.ifCond .eq 15, 3) := by decide +kernel
theorem dX7_repeat_8 : decode cX7_repeat 8 = .ok (.iload_n 3, 1) := by decide +kernel
theorem dX7_repeat_9 : decode cX7_repeat 9 = .ok (.i2l, 1) := by decide +kernel
theorem dX7_repeat_10 : decode cX7_repeat 10 = .ok (.lconst 1, 1) := by decide +kernel
theorem dX7_repeat_11 : decode cX7_repeat 11 = .ok (.ldc2_w 87, 3) := by decide +kernel
theorem dX7_repeat_14 : decode cX7_repeat 14 = .ok (.invokestatic 39, 3) := by decide +kernel
theorem dX7_repeat_17 : decode cX7_repeat 17 = .ok (.ifCond .ne 7, 3) := by decide +kernel
theorem dX7_repeat_20 : decode cX7_repeat 20 = .ok (.iconst 1, 1) := by decide +kernel
theorem dX7_repeat_21 : decode cX7_repeat 21 = .ok (.goto 32, 3) := by decide +kernel
theorem dX7_repeat_24 : decode cX7_repeat 24 = .ok (.iload_n 2, 1) := by decide +kernel
theorem dX7_repeat_25 : decode cX7_repeat 25 = .ok (.invokestatic 61, 3) := by decide +kernel
theorem dX7_repeat_28 : decode cX7_repeat 28 = .ok (.ifCond .ne 7, 3) := by decide +kernel
theorem dX7_repeat_31 : decode cX7_repeat 31 = .ok (.iconst 2, 1) := by decide +kernel
theorem dX7_repeat_32 : decode cX7_repeat 32 = .ok (.goto 21, 3) := by decide +kernel
theorem dX7_repeat_35 : decode cX7_repeat 35 = .ok (.aload_n 0, 1) := by decide +kernel
theorem dX7_repeat_36 : decode cX7_repeat 36 = .ok (.iload_n 1, 1) := by decide +kernel
theorem dX7_repeat_37 : decode cX7_repeat 37 = .ok (.iload_n 2, 1) := by decide +kernel
theorem dX7_repeat_38 : decode cX7_repeat 38 = .ok (.invokevirtual 69, 3) := by decide +kernel
theorem dX7_repeat_41 : decode cX7_repeat 41 = .ok (.iload_n 3, 1) := by decide +kernel
theorem dX7_repeat_42 : decode cX7_repeat 42 = .ok (.imul, 1) := by decide +kernel
theorem dX7_repeat_43 : decode cX7_repeat 43 = .ok (.bipush 32, 2) := by decide +kernel
theorem dX7_repeat_45 : decode cX7_repeat 45 = .ok (.if_icmp .le 7, 3) := by decide +kernel
theorem dX7_repeat_48 : decode cX7_repeat 48 = .ok (.iconst 3, 1) := by decide +kernel
theorem dX7_repeat_49 : decode cX7_repeat 49 = .ok (.goto 4, 3) := by decide +kernel
theorem dX7_repeat_52 : decode cX7_repeat 52 = .ok (.iconst 0, 1) := by decide +kernel
theorem dX7_repeat_53 : decode cX7_repeat 53 = .ok (.invokevirtual 73, 3) := by decide +kernel
theorem dX7_repeat_56 : decode cX7_repeat 56 = .ok (.ifCond .eq 5, 3) := by decide +kernel
theorem dX7_repeat_59 : decode cX7_repeat 59 = .ok (.iconst 0, 1) := by decide +kernel
theorem dX7_repeat_60 : decode cX7_repeat 60 = .ok (.ireturn, 1) := by decide +kernel
theorem dX7_repeat_61 : decode cX7_repeat 61 = .ok (.aload_n 0, 1) := by decide +kernel
theorem dX7_repeat_62 : decode cX7_repeat 62 = .ok (.iload_n 1, 1) := by decide +kernel
theorem dX7_repeat_63 : decode cX7_repeat 63 = .ok (.iload_n 2, 1) := by decide +kernel
theorem dX7_repeat_64 : decode cX7_repeat 64 = .ok (.invokevirtual 69, 3) := by decide +kernel
theorem dX7_repeat_67 : decode cX7_repeat 67 = .ok (.istore 4, 2) := by decide +kernel
theorem dX7_repeat_69 : decode cX7_repeat 69 = .ok (.iload 4, 2) := by decide +kernel
theorem dX7_repeat_71 : decode cX7_repeat 71 = .ok (.istore 5, 2) := by decide +kernel
theorem dX7_repeat_73 : decode cX7_repeat 73 = .ok (.iload 5, 2) := by decide +kernel
theorem dX7_repeat_75 : decode cX7_repeat 75 = .ok (.iload 4, 2) := by decide +kernel
theorem dX7_repeat_77 : decode cX7_repeat 77 = .ok (.iload_n 3, 1) := by decide +kernel
theorem dX7_repeat_78 : decode cX7_repeat 78 = .ok (.imul, 1) := by decide +kernel
theorem dX7_repeat_79 : decode cX7_repeat 79 = .ok (.if_icmp .ge 38, 3) := by decide +kernel
theorem dX7_repeat_82 : decode cX7_repeat 82 = .ok (.aload_n 0, 1) := by decide +kernel
theorem dX7_repeat_83 : decode cX7_repeat 83 = .ok (.getfield 7, 3) := by decide +kernel
theorem dX7_repeat_86 : decode cX7_repeat 86 = .ok (.aload_n 0, 1) := by decide +kernel
theorem dX7_repeat_87 : decode cX7_repeat 87 = .ok (.iload_n 1, 1) := by decide +kernel
theorem dX7_repeat_88 : decode cX7_repeat 88 = .ok (.iload_n 2, 1) := by decide +kernel
theorem dX7_repeat_89 : decode cX7_repeat 89 = .ok (.iload 5, 2) := by decide +kernel
theorem dX7_repeat_91 : decode cX7_repeat 91 = .ok (.invokevirtual 76, 3) := by decide +kernel
theorem dX7_repeat_94 : decode cX7_repeat 94 = .ok (.aload_n 0, 1) := by decide +kernel
theorem dX7_repeat_95 : decode cX7_repeat 95 = .ok (.getfield 7, 3) := by decide +kernel
theorem dX7_repeat_98 : decode cX7_repeat 98 = .ok (.aload_n 0, 1) := by decide +kernel
theorem dX7_repeat_99 : decode cX7_repeat 99 = .ok (.iload_n 1, 1) := by decide +kernel
theorem dX7_repeat_100 : decode cX7_repeat 100 = .ok (.iload_n 2, 1) := by decide +kernel
theorem dX7_repeat_101 : decode cX7_repeat 101 = .ok (.iload 5, 2) := by decide +kernel
theorem dX7_repeat_103 : decode cX7_repeat 103 = .ok (.iload 4, 2) := by decide +kernel
theorem dX7_repeat_105 : decode cX7_repeat 105 = .ok (.isub, 1) := by decide +kernel
theorem dX7_repeat_106 : decode cX7_repeat 106 = .ok (.invokevirtual 76, 3) := by decide +kernel
theorem dX7_repeat_109 : decode cX7_repeat 109 = .ok (.laload, 1) := by decide +kernel
theorem dX7_repeat_110 : decode cX7_repeat 110 = .ok (.lastore, 1) := by decide +kernel
theorem dX7_repeat_111 : decode cX7_repeat 111 = .ok (.iinc 5 1, 3) := by decide +kernel
theorem dX7_repeat_114 : decode cX7_repeat 114 = .ok (.goto (-41), 3) := by decide +kernel
theorem dX7_repeat_117 : decode cX7_repeat 117 = .ok (.aload_n 0, 1) := by decide +kernel
theorem dX7_repeat_118 : decode cX7_repeat 118 = .ok (.iload_n 1, 1) := by decide +kernel
theorem dX7_repeat_119 : decode cX7_repeat 119 = .ok (.iload_n 2, 1) := by decide +kernel
theorem dX7_repeat_120 : decode cX7_repeat 120 = .ok (.iload 4, 2) := by decide +kernel
theorem dX7_repeat_122 : decode cX7_repeat 122 = .ok (.iload_n 3, 1) := by decide +kernel
theorem dX7_repeat_123 : decode cX7_repeat 123 = .ok (.imul, 1) := by decide +kernel
theorem dX7_repeat_124 : decode cX7_repeat 124 = .ok (.invokevirtual 80, 3) := by decide +kernel
theorem dX7_repeat_127 : decode cX7_repeat 127 = .ok (.iload 4, 2) := by decide +kernel
theorem dX7_repeat_129 : decode cX7_repeat 129 = .ok (.iload_n 3, 1) := by decide +kernel
theorem dX7_repeat_130 : decode cX7_repeat 130 = .ok (.imul, 1) := by decide +kernel
theorem dX7_repeat_131 : decode cX7_repeat 131 = .ok (.ireturn, 1) := by decide +kernel
theorem dX7_reverse_0 : decode cX7_reverse 0 = .ok (.aload_n 0, 1) := by decide +kernel
theorem dX7_reverse_1 : decode cX7_reverse 1 = .ok (.aload_n 0, 1) := by decide +kernel
theorem dX7_reverse_2 : decode cX7_reverse 2 = .ok (.iload_n 1, 1) := by decide +kernel
theorem dX7_reverse_3 : decode cX7_reverse 3 = .ok (.iload_n 2, 1) := by decide +kernel
theorem dX7_reverse_4 : decode cX7_reverse 4 = .ok (.invokevirtual 84, 3) := by decide +kernel
theorem dX7_reverse_7 : decode cX7_reverse 7 = .ok (.invokevirtual 73, 3) := by decide +kernel
theorem dX7_reverse_10 : decode cX7_reverse 10 = .ok (.ifCond .eq 5, 3) := by decide +kernel
theorem dX7_reverse_13 : decode cX7_reverse 13 = .ok (.iconst 0, 1) := by decide +kernel
theorem dX7_reverse_14 : decode cX7_reverse 14 = .ok (.ireturn, 1) := by decide +kernel
theorem dX7_reverse_15 : decode cX7_reverse 15 = .ok (.aload_n 0, 1) := by decide +kernel
theorem dX7_reverse_16 : decode cX7_reverse 16 = .ok (.iload_n 1, 1) := by decide +kernel
theorem dX7_reverse_17 : decode cX7_reverse 17 = .ok (.iload_n 2, 1) := by decide +kernel
theorem dX7_reverse_18 : decode cX7_reverse 18 = .ok (.invokevirtual 69, 3) := by decide +kernel
theorem dX7_reverse_21 : decode cX7_reverse 21 = .ok (.istore_n 3, 1) := by decide +kernel
theorem dX7_reverse_22 : decode cX7_reverse 22 = .ok (.iconst 0, 1) := by decide +kernel
theorem dX7_reverse_23 : decode cX7_reverse 23 = .ok (.istore 4, 2) := by decide +kernel
theorem dX7_reverse_25 : decode cX7_reverse 25 = .ok (.iload 4, 2) := by decide +kernel
theorem dX7_reverse_27 : decode cX7_reverse 27 = .ok (.iload_n 3, 1) := by decide +kernel
theorem dX7_reverse_28 : decode cX7_reverse 28 = .ok (.iconst 1, 1) := by decide +kernel
theorem dX7_reverse_29 : decode cX7_reverse 29 = .ok (.isub, 1) := by decide +kernel
theorem dX7_reverse_30 : decode cX7_reverse 30 = .ok (.iload 4, 2) := by decide +kernel
theorem dX7_reverse_32 : decode cX7_reverse 32 = .ok (.isub, 1) := by decide +kernel
theorem dX7_reverse_33 : decode cX7_reverse 33 = .ok (.if_icmp .ge 73, 3) := by decide +kernel
theorem dX7_reverse_36 : decode cX7_reverse 36 = .ok (.aload_n 0, 1) := by decide +kernel
theorem dX7_reverse_37 : decode cX7_reverse 37 = .ok (.getfield 7, 3) := by decide +kernel
theorem dX7_reverse_40 : decode cX7_reverse 40 = .ok (.aload_n 0, 1) := by decide +kernel
theorem dX7_reverse_41 : decode cX7_reverse 41 = .ok (.iload_n 1, 1) := by decide +kernel
theorem dX7_reverse_42 : decode cX7_reverse 42 = .ok (.iload_n 2, 1) := by decide +kernel
theorem dX7_reverse_43 : decode cX7_reverse 43 = .ok (.iload 4, 2) := by decide +kernel
theorem dX7_reverse_45 : decode cX7_reverse 45 = .ok (.invokevirtual 76, 3) := by decide +kernel
theorem dX7_reverse_48 : decode cX7_reverse 48 = .ok (.laload, 1) := by decide +kernel
theorem dX7_reverse_49 : decode cX7_reverse 49 = .ok (.lstore 5, 2) := by decide +kernel
theorem dX7_reverse_51 : decode cX7_reverse 51 = .ok (.aload_n 0, 1) := by decide +kernel
theorem dX7_reverse_52 : decode cX7_reverse 52 = .ok (.getfield 7, 3) := by decide +kernel
theorem dX7_reverse_55 : decode cX7_reverse 55 = .ok (.aload_n 0, 1) := by decide +kernel
theorem dX7_reverse_56 : decode cX7_reverse 56 = .ok (.iload_n 1, 1) := by decide +kernel
theorem dX7_reverse_57 : decode cX7_reverse 57 = .ok (.iload_n 2, 1) := by decide +kernel
theorem dX7_reverse_58 : decode cX7_reverse 58 = .ok (.iload 4, 2) := by decide +kernel
theorem dX7_reverse_60 : decode cX7_reverse 60 = .ok (.invokevirtual 76, 3) := by decide +kernel
theorem dX7_reverse_63 : decode cX7_reverse 63 = .ok (.aload_n 0, 1) := by decide +kernel
theorem dX7_reverse_64 : decode cX7_reverse 64 = .ok (.getfield 7, 3) := by decide +kernel
theorem dX7_reverse_67 : decode cX7_reverse 67 = .ok (.aload_n 0, 1) := by decide +kernel
theorem dX7_reverse_68 : decode cX7_reverse 68 = .ok (.iload_n 1, 1) := by decide +kernel
theorem dX7_reverse_69 : decode cX7_reverse 69 = .ok (.iload_n 2, 1) := by decide +kernel
theorem dX7_reverse_70 : decode cX7_reverse 70 = .ok (.iload_n 3, 1) := by decide +kernel
theorem dX7_reverse_71 : decode cX7_reverse 71 = .ok (.iconst 1, 1) := by decide +kernel
theorem dX7_reverse_72 : decode cX7_reverse 72 = .ok (.isub, 1) := by decide +kernel
theorem dX7_reverse_73 : decode cX7_reverse 73 = .ok (.iload 4, 2) := by decide +kernel
theorem dX7_reverse_75 : decode cX7_reverse 75 = .ok (.isub, 1) := by decide +kernel
theorem dX7_reverse_76 : decode cX7_reverse 76 = .ok (.invokevirtual 76, 3) := by decide +kernel
theorem dX7_reverse_79 : decode cX7_reverse 79 = .ok (.laload, 1) := by decide +kernel
theorem dX7_reverse_80 : decode cX7_reverse 80 = .ok (.lastore, 1) := by decide +kernel
theorem dX7_reverse_81 : decode cX7_reverse 81 = .ok (.aload_n 0, 1) := by decide +kernel
theorem dX7_reverse_82 : decode cX7_reverse 82 = .ok (.getfield 7, 3) := by decide +kernel
theorem dX7_reverse_85 : decode cX7_reverse 85 = .ok (.aload_n 0, 1) := by decide +kernel
theorem dX7_reverse_86 : decode cX7_reverse 86 = .ok (.iload_n 1, 1) := by decide +kernel
theorem dX7_reverse_87 : decode cX7_reverse 87 = .ok (.iload_n 2, 1) := by decide +kernel
theorem dX7_reverse_88 : decode cX7_reverse 88 = .ok (.iload_n 3, 1) := by decide +kernel
theorem dX7_reverse_89 : decode cX7_reverse 89 = .ok (.iconst 1, 1) := by decide +kernel
theorem dX7_reverse_90 : decode cX7_reverse 90 = .ok (.isub, 1) := by decide +kernel
theorem dX7_reverse_91 : decode cX7_reverse 91 = .ok (.iload 4, 2) := by decide +kernel
theorem dX7_reverse_93 : decode cX7_reverse 93 = .ok (.isub, 1) := by decide +kernel
theorem dX7_reverse_94 : decode cX7_reverse 94 = .ok (.invokevirtual 76, 3) := by decide +kernel
theorem dX7_reverse_97 : decode cX7_reverse 97 = .ok (.lload 5, 2) := by decide +kernel
theorem dX7_reverse_99 : decode cX7_reverse 99 = .ok (.lastore, 1) := by decide +kernel
theorem dX7_reverse_100 : decode cX7_reverse 100 = .ok (.iinc 4 1, 3) := by decide +kernel
theorem dX7_reverse_103 : decode cX7_reverse 103 = .ok (.goto (-78), 3) := by decide +kernel
theorem dX7_reverse_106 : decode cX7_reverse 106 = .ok (.iload_n 3, 1) := by decide +kernel
theorem dX7_reverse_107 : decode cX7_reverse 107 = .ok (.ireturn, 1) := by decide +kernel
theorem dX7_cut_0 : decode cX7_cut 0 = .ok (.aload_n 0, 1) := by decide +kernel
theorem dX7_cut_1 : decode cX7_cut 1 = .ok (.iload_n 1, 1) := by decide +kernel
theorem dX7_cut_2 : decode cX7_cut 2 = .ok (.invokestatic 57, 3) := by decide +kernel
theorem dX7_cut_5 : decode cX7_cut 5 = .ok (.ifCond .ne 7, 3) := by decide +kernel
theorem dX7_cut_8 : decode cX7_cut 8 = .ok (.iconst 1, 1) := by decide +kernel
theorem dX7_cut_9 : decode cX7_cut 9 = .ok (.goto 38, 3) := by decide +kernel
theorem dX7_cut_12 : decode cX7_cut 12 = .ok (.iload_n 2, 1) := by decide +kernel
theorem dX7_cut_13 : decode cX7_cut 13 = .ok (.invokestatic 61, 3) := by decide +kernel
theorem dX7_cut_16 : decode cX7_cut 16 = .ok (.ifCond .eq 26, 3) := by decide +kernel
theorem dX7_cut_19 : decode cX7_cut 19 = .ok (.iload_n 3, 1) := by decide +kernel
theorem dX7_cut_20 : decode cX7_cut 20 = .ok (.i2l, 1) := by decide +kernel
theorem dX7_cut_21 : decode cX7_cut 21 = .ok (.lconst 0, 1) := by decide +kernel
theorem dX7_cut_22 : decode cX7_cut 22 = .ok (.iload 4, 2) := by decide +kernel
theorem dX7_cut_24 : decode cX7_cut 24 = .ok (.i2l, 1) := by decide +kernel
theorem dX7_cut_25 : decode cX7_cut 25 = .ok (.invokestatic 39, 3) := by decide +kernel
theorem dX7_cut_28 : decode cX7_cut 28 = .ok (.ifCond .eq 14, 3) := by decide +kernel
theorem dX7_cut_31 : decode cX7_cut 31 = .ok (.iload 4, 2) := by decide +kernel
theorem dX7_cut_33 : decode cX7_cut 33 = .ok (.aload_n 0, 1) := by decide +kernel
theorem dX7_cut_34 : decode cX7_cut 34 = .ok (.iload_n 1, 1) := by decide +kernel
theorem dX7_cut_35 : decode cX7_cut 35 = .ok (.iload_n 2, 1) := by decide +kernel
theorem dX7_cut_36 : decode cX7_cut 36 = .ok (.invokevirtual 69, 3) := by decide +kernel
theorem dX7_cut_39 : decode cX7_cut 39 = .ok (.if_icmp .le 7, 3) := by decide +kernel
theorem dX7_cut_42 : decode cX7_cut 42 = .ok (.iconst 2, 1) := by decide +kernel
theorem dX7_cut_43 : decode cX7_cut 43 = .ok (.goto 4, 3) := by decide +kernel
theorem dX7_cut_46 : decode cX7_cut 46 = .ok (.iconst 0, 1) := by decide +kernel
theorem dX7_cut_47 : decode cX7_cut 47 = .ok (.invokevirtual 73, 3) := by decide +kernel
theorem dX7_cut_50 : decode cX7_cut 50 = .ok (.ifCond .eq 5, 3) := by decide +kernel
theorem dX7_cut_53 : decode cX7_cut 53 = .ok (.iconst 0, 1) := by decide +kernel
theorem dX7_cut_54 : decode cX7_cut 54 = .ok (.ireturn, 1) := by decide +kernel
theorem dX7_cut_55 : decode cX7_cut 55 = .ok (.iload_n 3, 1) := by decide +kernel
theorem dX7_cut_56 : decode cX7_cut 56 = .ok (.istore 5, 2) := by decide +kernel
theorem dX7_cut_58 : decode cX7_cut 58 = .ok (.iload 5, 2) := by decide +kernel
theorem dX7_cut_60 : decode cX7_cut 60 = .ok (.iload 4, 2) := by decide +kernel
theorem dX7_cut_62 : decode cX7_cut 62 = .ok (.if_icmp .ge 37, 3) := by decide +kernel
theorem dX7_cut_65 : decode cX7_cut 65 = .ok (.aload_n 0, 1) := by decide +kernel
theorem dX7_cut_66 : decode cX7_cut 66 = .ok (.getfield 7, 3) := by decide +kernel
theorem dX7_cut_69 : decode cX7_cut 69 = .ok (.aload_n 0, 1) := by decide +kernel
theorem dX7_cut_70 : decode cX7_cut 70 = .ok (.iload_n 1, 1) := by decide +kernel
theorem dX7_cut_71 : decode cX7_cut 71 = .ok (.iload_n 2, 1) := by decide +kernel
theorem dX7_cut_72 : decode cX7_cut 72 = .ok (.iload 5, 2) := by decide +kernel
theorem dX7_cut_74 : decode cX7_cut 74 = .ok (.iload_n 3, 1) := by decide +kernel
theorem dX7_cut_75 : decode cX7_cut 75 = .ok (.isub, 1) := by decide +kernel
theorem dX7_cut_76 : decode cX7_cut 76 = .ok (.invokevirtual 76, 3) := by decide +kernel
theorem dX7_cut_79 : decode cX7_cut 79 = .ok (.aload_n 0, 1) := by decide +kernel
theorem dX7_cut_80 : decode cX7_cut 80 = .ok (.getfield 7, 3) := by decide +kernel
theorem dX7_cut_83 : decode cX7_cut 83 = .ok (.aload_n 0, 1) := by decide +kernel
theorem dX7_cut_84 : decode cX7_cut 84 = .ok (.iload_n 1, 1) := by decide +kernel
theorem dX7_cut_85 : decode cX7_cut 85 = .ok (.iload_n 2, 1) := by decide +kernel
theorem dX7_cut_86 : decode cX7_cut 86 = .ok (.iload 5, 2) := by decide +kernel
theorem dX7_cut_88 : decode cX7_cut 88 = .ok (.invokevirtual 76, 3) := by decide +kernel
theorem dX7_cut_91 : decode cX7_cut 91 = .ok (.laload, 1) := by decide +kernel
theorem dX7_cut_92 : decode cX7_cut 92 = .ok (.lastore, 1) := by decide +kernel
theorem dX7_cut_93 : decode cX7_cut 93 = .ok (.iinc 5 1, 3) := by decide +kernel
theorem dX7_cut_96 : decode cX7_cut 96 = .ok (.goto (-38), 3) := by decide +kernel
theorem dX7_cut_99 : decode cX7_cut 99 = .ok (.aload_n 0, 1) := by decide +kernel
theorem dX7_cut_100 : decode cX7_cut 100 = .ok (.iload_n 1, 1) := by decide +kernel
theorem dX7_cut_101 : decode cX7_cut 101 = .ok (.iload_n 2, 1) := by decide +kernel
theorem dX7_cut_102 : decode cX7_cut 102 = .ok (.iload 4, 2) := by decide +kernel
theorem dX7_cut_104 : decode cX7_cut 104 = .ok (.iload_n 3, 1) := by decide +kernel
theorem dX7_cut_105 : decode cX7_cut 105 = .ok (.isub, 1) := by decide +kernel
theorem dX7_cut_106 : decode cX7_cut 106 = .ok (.invokevirtual 80, 3) := by decide +kernel
theorem dX7_cut_109 : decode cX7_cut 109 = .ok (.iload 4, 2) := by decide +kernel
theorem dX7_cut_111 : decode cX7_cut 111 = .ok (.iload_n 3, 1) := by decide +kernel
theorem dX7_cut_112 : decode cX7_cut 112 = .ok (.isub, 1) := by decide +kernel
theorem dX7_cut_113 : decode cX7_cut 113 = .ok (.ireturn, 1) := by decide +kernel
theorem dX7_half_0 : decode cX7_half 0 = .ok (.iload_n 0, 1) := by decide +kernel
theorem dX7_half_1 : decode cX7_half 1 = .ok (.ifCond .ne 9, 3) := by decide +kernel
theorem dX7_half_4 : decode cX7_half 4 = .ok (.ldc2_w 89, 3) := by decide +kernel
theorem dX7_half_7 : decode cX7_half 7 = .ok (.goto 17, 3) := by decide +kernel
theorem dX7_half_10 : decode cX7_half 10 = .ok (.iload_n 0, 1) := by decide +kernel
theorem dX7_half_11 : decode cX7_half 11 = .ok (.iconst 1, 1) := by decide +kernel
theorem dX7_half_12 : decode cX7_half 12 = .ok (.if_icmp .ne 9, 3) := by decide +kernel
theorem dX7_half_15 : decode cX7_half 15 = .ok (.ldc2_w 91, 3) := by decide +kernel
theorem dX7_half_18 : decode cX7_half 18 = .ok (.goto 6, 3) := by decide +kernel
theorem dX7_half_21 : decode cX7_half 21 = .ok (.ldc2_w 93, 3) := by decide +kernel
theorem dX7_half_24 : decode cX7_half 24 = .ok (.lreturn, 1) := by decide +kernel
theorem dX7_convert_0 : decode cX7_convert 0 = .ok (.iload_n 1, 1) := by decide +kernel
theorem dX7_convert_1 : decode cX7_convert 1 = .ok (.invokestatic 57, 3) := by decide +kernel
theorem dX7_convert_4 : decode cX7_convert 4 = .ok (.ifCond .eq 35, 3) := by decide +kernel
theorem dX7_convert_7 : decode cX7_convert 7 = .ok (.iload_n 3, 1) := by decide +kernel
theorem dX7_convert_8 : decode cX7_convert 8 = .ok (.invokestatic 57, 3) := by decide +kernel
theorem dX7_convert_11 : decode cX7_convert 11 = .ok (.ifCond .eq 28, 3) := by decide +kernel
theorem dX7_convert_14 : decode cX7_convert 14 = .ok (.iload 5, 2) := by decide +kernel
theorem dX7_convert_16 : decode cX7_convert 16 = .ok (.bipush 110, 2) := by decide +kernel
theorem dX7_convert_18 : decode cX7_convert 18 = .ok (.if_icmp .eq 17, 3) := by decide +kernel
theorem dX7_convert_21 : decode cX7_convert 21 = .ok (.iload 5, 2) := by decide +kernel
theorem dX7_convert_23 : decode cX7_convert 23 = .ok (.bipush 117, 2) := by decide +kernel
theorem dX7_convert_25 : decode cX7_convert 25 = .ok (.if_icmp .eq 10, 3) := by decide +kernel
theorem dX7_convert_28 : decode cX7_convert 28 = .ok (.iload 5, 2) := by decide +kernel
theorem dX7_convert_30 : decode cX7_convert 30 = .ok (.bipush 116, 2) := by decide +kernel
theorem dX7_convert_32 : decode cX7_convert 32 = .ok (.if_icmp .ne 7, 3) := by decide +kernel
theorem dX7_convert_35 : decode cX7_convert 35 = .ok (.iconst 1, 1) := by decide +kernel
theorem dX7_convert_36 : decode cX7_convert 36 = .ok (.goto 4, 3) := by decide +kernel
theorem dX7_convert_39 : decode cX7_convert 39 = .ok (.iconst 0, 1) := by decide +kernel
theorem dX7_convert_40 : decode cX7_convert 40 = .ok (.istore 6, 2) := by decide +kernel
theorem dX7_convert_42 : decode cX7_convert 42 = .ok (.aload_n 0, 1) := by decide +kernel
theorem dX7_convert_43 : decode cX7_convert 43 = .ok (.iload 6, 2) := by decide +kernel
theorem dX7_convert_45 : decode cX7_convert 45 = .ok (.ifCond .ne 7, 3) := by decide +kernel
theorem dX7_convert_48 : decode cX7_convert 48 = .ok (.iconst 1, 1) := by decide +kernel
theorem dX7_convert_49 : decode cX7_convert 49 = .ok (.goto 23, 3) := by decide +kernel
theorem dX7_convert_52 : decode cX7_convert 52 = .ok (.iload_n 2, 1) := by decide +kernel
theorem dX7_convert_53 : decode cX7_convert 53 = .ok (.invokestatic 61, 3) := by decide +kernel
theorem dX7_convert_56 : decode cX7_convert 56 = .ok (.ifCond .eq 15, 3) := by decide +kernel
theorem dX7_convert_59 : decode cX7_convert 59 = .ok (.iload 4, 2) := by decide +kernel
theorem dX7_convert_61 : decode cX7_convert 61 = .ok (.invokestatic 61, 3) := by decide +kernel
theorem dX7_convert_64 : decode cX7_convert 64 = .ok (.ifCond .eq 7, 3) := by decide +kernel
theorem dX7_convert_67 : decode cX7_convert 67 = .ok (.iconst 0, 1) := by decide +kernel
theorem dX7_convert_68 : decode cX7_convert 68 = .ok (.goto 4, 3) := by decide +kernel
theorem dX7_convert_71 : decode cX7_convert 71 = .ok (.iconst 2, 1) := by decide +kernel
theorem dX7_convert_72 : decode cX7_convert 72 = .ok (.invokevirtual 73, 3) := by decide +kernel
theorem dX7_convert_75 : decode cX7_convert 75 = .ok (.ifCond .eq 5, 3) := by decide +kernel
theorem dX7_convert_78 : decode cX7_convert 78 = .ok (.iconst 0, 1) := by decide +kernel
theorem dX7_convert_79 : decode cX7_convert 79 = .ok (.ireturn, 1) := by decide +kernel
theorem dX7_convert_80 : decode cX7_convert 80 = .ok (.aload_n 0, 1) := by decide +kernel
theorem dX7_convert_81 : decode cX7_convert 81 = .ok (.iload_n 1, 1) := by decide +kernel
theorem dX7_convert_82 : decode cX7_convert 82 = .ok (.iload_n 2, 1) := by decide +kernel
theorem dX7_convert_83 : decode cX7_convert 83 = .ok (.invokevirtual 69, 3) := by decide +kernel
theorem dX7_convert_86 : decode cX7_convert 86 = .ok (.istore 7, 2) := by decide +kernel
theorem dX7_convert_88 : decode cX7_convert 88 = .ok (.iload 7, 2) := by decide +kernel
theorem dX7_convert_90 : decode cX7_convert 90 = .ok (.newarray .long, 2) := by decide +kernel
theorem dX7_convert_92 : decode cX7_convert 92 = .ok (.astore 8, 2) := by decide +kernel
theorem dX7_convert_94 : decode cX7_convert 94 = .ok (.iconst 1, 1) := by decide +kernel
theorem dX7_convert_95 : decode cX7_convert 95 = .ok (.istore 9, 2) := by decide +kernel
theorem dX7_convert_97 : decode cX7_convert 97 = .ok (.iconst 0, 1) := by decide +kernel
theorem dX7_convert_98 : decode cX7_convert 98 = .ok (.istore 10, 2) := by decide +kernel
theorem dX7_convert_100 : decode cX7_convert 100 = .ok (.iload 10, 2) := by decide +kernel
theorem dX7_convert_102 : decode cX7_convert 102 = .ok (.iload 7, 2) := by decide +kernel
theorem dX7_convert_104 : decode cX7_convert 104 = .ok (.if_icmp .ge 179, 3) := by decide +kernel
theorem dX7_convert_107 : decode cX7_convert 107 = .ok (.aload_n 0, 1) := by decide +kernel
theorem dX7_convert_108 : decode cX7_convert 108 = .ok (.getfield 7, 3) := by decide +kernel
theorem dX7_convert_111 : decode cX7_convert 111 = .ok (.aload_n 0, 1) := by decide +kernel
theorem dX7_convert_112 : decode cX7_convert 112 = .ok (.iload_n 1, 1) := by decide +kernel
theorem dX7_convert_113 : decode cX7_convert 113 = .ok (.iload_n 2, 1) := by decide +kernel
theorem dX7_convert_114 : decode cX7_convert 114 = .ok (.iload 10, 2) := by decide +kernel
theorem dX7_convert_116 : decode cX7_convert 116 = .ok (.invokevirtual 76, 3) := by decide +kernel
theorem dX7_convert_119 : decode cX7_convert 119 = .ok (.laload, 1) := by decide +kernel
theorem dX7_convert_120 : decode cX7_convert 120 = .ok (.lstore 11, 2) := by decide +kernel
theorem dX7_convert_122 : decode cX7_convert 122 = .ok (.lload 11, 2) := by decide +kernel
theorem dX7_convert_124 : decode cX7_convert 124 = .ok (.lconst 0, 1) := by decide +kernel
theorem dX7_convert_125 : decode cX7_convert 125 = .ok (.lcmp, 1) := by decide +kernel
theorem dX7_convert_126 : decode cX7_convert 126 = .ok (.ifCond .ge 7, 3) := by decide +kernel
theorem dX7_convert_129 : decode cX7_convert 129 = .ok (.iconst 1, 1) := by decide +kernel
theorem dX7_convert_130 : decode cX7_convert 130 = .ok (.goto 4, 3) := by decide +kernel
theorem dX7_convert_133 : decode cX7_convert 133 = .ok (.iconst 0, 1) := by decide +kernel
theorem dX7_convert_134 : decode cX7_convert 134 = .ok (.istore 13, 2) := by decide +kernel
theorem dX7_convert_136 : decode cX7_convert 136 = .ok (.iload_n 1, 1) := by decide +kernel
theorem dX7_convert_137 : decode cX7_convert 137 = .ok (.bipush 108, 2) := by decide +kernel
theorem dX7_convert_139 : decode cX7_convert 139 = .ok (.if_icmp .ne 54, 3) := by decide +kernel
theorem dX7_convert_142 : decode cX7_convert 142 = .ok (.iload 5, 2) := by decide +kernel
theorem dX7_convert_144 : decode cX7_convert 144 = .ok (.bipush 117, 2) := by decide +kernel
theorem dX7_convert_146 : decode cX7_convert 146 = .ok (.if_icmp .ne 11, 3) := by decide +kernel
theorem dX7_convert_149 : decode cX7_convert 149 = .ok (.iload 13, 2) := by decide +kernel
theorem dX7_convert_151 : decode cX7_convert 151 = .ok (.ifCond .eq 6, 3) := by decide +kernel
theorem dX7_convert_154 : decode cX7_convert 154 = .ok (.iconst 0, 1) := by decide +kernel
theorem dX7_convert_155 : decode cX7_convert 155 = .ok (.istore 9, 2) := by decide +kernel
theorem dX7_convert_157 : decode cX7_convert 157 = .ok (.iload 5, 2) := by decide +kernel
theorem dX7_convert_159 : decode cX7_convert 159 = .ok (.bipush 116, 2) := by decide +kernel
theorem dX7_convert_161 : decode cX7_convert 161 = .ok (.if_icmp .ne 95, 3) := by decide +kernel
theorem dX7_convert_164 : decode cX7_convert 164 = .ok (.iload 13, 2) := by decide +kernel
theorem dX7_convert_166 : decode cX7_convert 166 = .ok (.ifCond .eq 14, 3) := by decide +kernel
theorem dX7_convert_169 : decode cX7_convert 169 = .ok (.lload 11, 2) := by decide +kernel
theorem dX7_convert_171 : decode cX7_convert 171 = .ok (.ldc2_w 97, 3) := by decide +kernel
theorem dX7_convert_174 : decode cX7_convert 174 = .ok (.ladd, 1) := by decide +kernel
theorem dX7_convert_175 : decode cX7_convert 175 = .ok (.lconst 1, 1) := by decide +kernel
theorem dX7_convert_176 : decode cX7_convert 176 = .ok (.ladd, 1) := by decide +kernel
theorem dX7_convert_177 : decode cX7_convert 177 = .ok (.goto 11, 3) := by decide +kernel
theorem dX7_convert_180 : decode cX7_convert 180 = .ok (.lload 11, 2) := by decide +kernel
theorem dX7_convert_182 : decode cX7_convert 182 = .ok (.ldc2_w 97, 3) := by decide +kernel
theorem dX7_convert_185 : decode cX7_convert 185 = .ok (.lsub, 1) := by decide +kernel
theorem dX7_convert_186 : decode cX7_convert 186 = .ok (.lconst 1, 1) := by decide +kernel
theorem dX7_convert_187 : decode cX7_convert 187 = .ok (.lsub, 1) := by decide +kernel
theorem dX7_convert_188 : decode cX7_convert 188 = .ok (.lstore 11, 2) := by decide +kernel
theorem dX7_convert_190 : decode cX7_convert 190 = .ok (.goto 66, 3) := by decide +kernel
theorem dX7_convert_193 : decode cX7_convert 193 = .ok (.iload 5, 2) := by decide +kernel
theorem dX7_convert_195 : decode cX7_convert 195 = .ok (.bipush 117, 2) := by decide +kernel
theorem dX7_convert_197 : decode cX7_convert 197 = .ok (.if_icmp .ne 24, 3) := by decide +kernel
theorem dX7_convert_200 : decode cX7_convert 200 = .ok (.iload 13, 2) := by decide +kernel
theorem dX7_convert_202 : decode cX7_convert 202 = .ok (.ifCond .eq 19, 3) := by decide +kernel
theorem dX7_convert_205 : decode cX7_convert 205 = .ok (.lload 11, 2) := by decide +kernel
theorem dX7_convert_207 : decode cX7_convert 207 = .ok (.ldc2_w 99, 3) := by decide +kernel
theorem dX7_convert_210 : decode cX7_convert 210 = .ok (.iload_n 1, 1) := by decide +kernel
theorem dX7_convert_211 : decode cX7_convert 211 = .ok (.invokestatic 33, 3) := by decide +kernel
theorem dX7_convert_214 : decode cX7_convert 214 = .ok (.invokestatic 101, 3) := by decide +kernel
theorem dX7_convert_217 : decode cX7_convert 217 = .ok (.lmul, 1) := by decide +kernel
theorem dX7_convert_218 : decode cX7_convert 218 = .ok (.ladd, 1) := by decide +kernel
theorem dX7_convert_219 : decode cX7_convert 219 = .ok (.lstore 11, 2) := by decide +kernel
theorem dX7_convert_221 : decode cX7_convert 221 = .ok (.iload 5, 2) := by decide +kernel
theorem dX7_convert_223 : decode cX7_convert 223 = .ok (.bipush 116, 2) := by decide +kernel
theorem dX7_convert_225 : decode cX7_convert 225 = .ok (.if_icmp .ne 31, 3) := by decide +kernel
theorem dX7_convert_228 : decode cX7_convert 228 = .ok (.lload 11, 2) := by decide +kernel
theorem dX7_convert_230 : decode cX7_convert 230 = .ok (.iload 13, 2) := by decide +kernel
theorem dX7_convert_232 : decode cX7_convert 232 = .ok (.ifCond .eq 13, 3) := by decide +kernel
theorem dX7_convert_235 : decode cX7_convert 235 = .ok (.iload_n 1, 1) := by decide +kernel
theorem dX7_convert_236 : decode cX7_convert 236 = .ok (.invokestatic 33, 3) := by decide +kernel
theorem dX7_convert_239 : decode cX7_convert 239 = .ok (.invokestatic 101, 3) := by decide +kernel
theorem dX7_convert_242 : decode cX7_convert 242 = .ok (.goto 11, 3) := by decide +kernel
theorem dX7_convert_245 : decode cX7_convert 245 = .ok (.iload_n 1, 1) := by decide +kernel
theorem dX7_convert_246 : decode cX7_convert 246 = .ok (.invokestatic 33, 3) := by decide +kernel
theorem dX7_convert_249 : decode cX7_convert 249 = .ok (.invokestatic 101, 3) := by decide +kernel
theorem dX7_convert_252 : decode cX7_convert 252 = .ok (.lneg, 1) := by decide +kernel
theorem dX7_convert_253 : decode cX7_convert 253 = .ok (.ladd, 1) := by decide +kernel
theorem dX7_convert_254 : decode cX7_convert 254 = .ok (.lstore 11, 2) := by decide +kernel
theorem dX7_convert_256 : decode cX7_convert 256 = .ok (.iload 9, 2) := by decide +kernel
theorem dX7_convert_258 : decode cX7_convert 258 = .ok (.iload_n 3, 1) := by decide +kernel
theorem dX7_convert_259 : decode cX7_convert 259 = .ok (.invokestatic 33, 3) := by decide +kernel
theorem dX7_convert_262 : decode cX7_convert 262 = .ok (.lload 11, 2) := by decide +kernel
theorem dX7_convert_264 : decode cX7_convert 264 = .ok (.invokestatic 65, 3) := by decide +kernel
theorem dX7_convert_267 : decode cX7_convert 267 = .ok (.iand, 1) := by decide +kernel
theorem dX7_convert_268 : decode cX7_convert 268 = .ok (.istore 9, 2) := by decide +kernel
theorem dX7_convert_270 : decode cX7_convert 270 = .ok (.aload 8, 2) := by decide +kernel
theorem dX7_convert_272 : decode cX7_convert 272 = .ok (.iload 10, 2) := by decide +kernel
theorem dX7_convert_274 : decode cX7_convert 274 = .ok (.lload 11, 2) := by decide +kernel
theorem dX7_convert_276 : decode cX7_convert 276 = .ok (.lastore, 1) := by decide +kernel
theorem dX7_convert_277 : decode cX7_convert 277 = .ok (.iinc 10 1, 3) := by decide +kernel
theorem dX7_convert_280 : decode cX7_convert 280 = .ok (.goto (-180), 3) := by decide +kernel
theorem dX7_convert_283 : decode cX7_convert 283 = .ok (.aload_n 0, 1) := by decide +kernel
theorem dX7_convert_284 : decode cX7_convert 284 = .ok (.iload 9, 2) := by decide +kernel
theorem dX7_convert_286 : decode cX7_convert 286 = .ok (.ifCond .eq 7, 3) := by decide +kernel
theorem dX7_convert_289 : decode cX7_convert 289 = .ok (.iconst 0, 1) := by decide +kernel
theorem dX7_convert_290 : decode cX7_convert 290 = .ok (.goto 4, 3) := by decide +kernel
theorem dX7_convert_293 : decode cX7_convert 293 = .ok (.iconst 3, 1) := by decide +kernel
theorem dX7_convert_294 : decode cX7_convert 294 = .ok (.invokevirtual 73, 3) := by decide +kernel
theorem dX7_convert_297 : decode cX7_convert 297 = .ok (.ifCond .eq 5, 3) := by decide +kernel
theorem dX7_convert_300 : decode cX7_convert 300 = .ok (.iconst 0, 1) := by decide +kernel
theorem dX7_convert_301 : decode cX7_convert 301 = .ok (.ireturn, 1) := by decide +kernel
theorem dX7_convert_302 : decode cX7_convert 302 = .ok (.iconst 0, 1) := by decide +kernel
theorem dX7_convert_303 : decode cX7_convert 303 = .ok (.istore 10, 2) := by decide +kernel
theorem dX7_convert_305 : decode cX7_convert 305 = .ok (.iload 10, 2) := by decide +kernel
theorem dX7_convert_307 : decode cX7_convert 307 = .ok (.iload 7, 2) := by decide +kernel
theorem dX7_convert_309 : decode cX7_convert 309 = .ok (.if_icmp .ge 28, 3) := by decide +kernel
theorem dX7_convert_312 : decode cX7_convert 312 = .ok (.aload_n 0, 1) := by decide +kernel
theorem dX7_convert_313 : decode cX7_convert 313 = .ok (.getfield 7, 3) := by decide +kernel
theorem dX7_convert_316 : decode cX7_convert 316 = .ok (.aload_n 0, 1) := by decide +kernel
theorem dX7_convert_317 : decode cX7_convert 317 = .ok (.iload_n 3, 1) := by decide +kernel
theorem dX7_convert_318 : decode cX7_convert 318 = .ok (.iload 4, 2) := by decide +kernel
theorem dX7_convert_320 : decode cX7_convert 320 = .ok (.iload 10, 2) := by decide +kernel
theorem dX7_convert_322 : decode cX7_convert 322 = .ok (.invokevirtual 76, 3) := by decide +kernel
theorem dX7_convert_325 : decode cX7_convert 325 = .ok (.aload 8, 2) := by decide +kernel
theorem dX7_convert_327 : decode cX7_convert 327 = .ok (.iload 10, 2) := by decide +kernel
theorem dX7_convert_329 : decode cX7_convert 329 = .ok (.laload, 1) := by decide +kernel
theorem dX7_convert_330 : decode cX7_convert 330 = .ok (.lastore, 1) := by decide +kernel
theorem dX7_convert_331 : decode cX7_convert 331 = .ok (.iinc 10 1, 3) := by decide +kernel
theorem dX7_convert_334 : decode cX7_convert 334 = .ok (.goto (-29), 3) := by decide +kernel
theorem dX7_convert_337 : decode cX7_convert 337 = .ok (.aload_n 0, 1) := by decide +kernel
theorem dX7_convert_338 : decode cX7_convert 338 = .ok (.iload_n 3, 1) := by decide +kernel
theorem dX7_convert_339 : decode cX7_convert 339 = .ok (.iload 4, 2) := by decide +kernel
theorem dX7_convert_341 : decode cX7_convert 341 = .ok (.iload 7, 2) := by decide +kernel
theorem dX7_convert_343 : decode cX7_convert 343 = .ok (.invokevirtual 80, 3) := by decide +kernel
theorem dX7_convert_346 : decode cX7_convert 346 = .ok (.iload 7, 2) := by decide +kernel
theorem dX7_convert_348 : decode cX7_convert 348 = .ok (.ireturn, 1) := by decide +kernel
theorem dX7_span_0 : decode cX7_span 0 = .ok (.aload_n 0, 1) := by decide +kernel
theorem dX7_span_1 : decode cX7_span 1 = .ok (.iload_n 1, 1) := by decide +kernel
theorem dX7_span_2 : decode cX7_span 2 = .ok (.invokestatic 105, 3) := by decide +kernel
theorem dX7_span_5 : decode cX7_span 5 = .ok (.ifCond .eq 10, 3) := by decide +kernel
theorem dX7_span_8 : decode cX7_span 8 = .ok (.iload_n 2, 1) := by decide +kernel
theorem dX7_span_9 : decode cX7_span 9 = .ok (.invokestatic 61, 3) := by decide +kernel
theorem dX7_span_12 : decode cX7_span 12 = .ok (.ifCond .ne 7, 3) := by decide +kernel
theorem dX7_span_15 : decode cX7_span 15 = .ok (.iconst 1, 1) := by decide +kernel
theorem dX7_span_16 : decode cX7_span 16 = .ok (.goto 34, 3) := by decide +kernel
theorem dX7_span_19 : decode cX7_span 19 = .ok (.iload_n 3, 1) := by decide +kernel
theorem dX7_span_20 : decode cX7_span 20 = .ok (.i2l, 1) := by decide +kernel
theorem dX7_span_21 : decode cX7_span 21 = .ok (.lconst 0, 1) := by decide +kernel
theorem dX7_span_22 : decode cX7_span 22 = .ok (.ldc2_w 108, 3) := by decide +kernel
theorem dX7_span_25 : decode cX7_span 25 = .ok (.invokestatic 39, 3) := by decide +kernel
theorem dX7_span_28 : decode cX7_span 28 = .ok (.ifCond .eq 21, 3) := by decide +kernel
theorem dX7_span_31 : decode cX7_span 31 = .ok (.iload 4, 2) := by decide +kernel
theorem dX7_span_33 : decode cX7_span 33 = .ok (.i2l, 1) := by decide +kernel
theorem dX7_span_34 : decode cX7_span 34 = .ok (.iload_n 3, 1) := by decide +kernel
theorem dX7_span_35 : decode cX7_span 35 = .ok (.i2l, 1) := by decide +kernel
theorem dX7_span_36 : decode cX7_span 36 = .ok (.ldc2_w 108, 3) := by decide +kernel
theorem dX7_span_39 : decode cX7_span 39 = .ok (.invokestatic 39, 3) := by decide +kernel
theorem dX7_span_42 : decode cX7_span 42 = .ok (.ifCond .eq 7, 3) := by decide +kernel
theorem dX7_span_45 : decode cX7_span 45 = .ok (.iconst 0, 1) := by decide +kernel
theorem dX7_span_46 : decode cX7_span 46 = .ok (.goto 4, 3) := by decide +kernel
theorem dX7_span_49 : decode cX7_span 49 = .ok (.iconst 2, 1) := by decide +kernel
theorem dX7_span_50 : decode cX7_span 50 = .ok (.invokevirtual 73, 3) := by decide +kernel
theorem dX7_span_53 : decode cX7_span 53 = .ok (.ifCond .eq 5, 3) := by decide +kernel
theorem dX7_span_56 : decode cX7_span 56 = .ok (.iconst 0, 1) := by decide +kernel
theorem dX7_span_57 : decode cX7_span 57 = .ok (.ireturn, 1) := by decide +kernel
theorem dX7_span_58 : decode cX7_span 58 = .ok (.aload_n 0, 1) := by decide +kernel
theorem dX7_span_59 : decode cX7_span 59 = .ok (.getfield 17, 3) := by decide +kernel
theorem dX7_span_62 : decode cX7_span 62 = .ok (.iload_n 1, 1) := by decide +kernel
theorem dX7_span_63 : decode cX7_span 63 = .ok (.iload_n 2, 1) := by decide +kernel
theorem dX7_span_64 : decode cX7_span 64 = .ok (.iastore, 1) := by decide +kernel
theorem dX7_span_65 : decode cX7_span 65 = .ok (.aload_n 0, 1) := by decide +kernel
theorem dX7_span_66 : decode cX7_span 66 = .ok (.getfield 20, 3) := by decide +kernel
theorem dX7_span_69 : decode cX7_span 69 = .ok (.iload_n 1, 1) := by decide +kernel
theorem dX7_span_70 : decode cX7_span 70 = .ok (.iload_n 3, 1) := by decide +kernel
theorem dX7_span_71 : decode cX7_span 71 = .ok (.iastore, 1) := by decide +kernel
theorem dX7_span_72 : decode cX7_span 72 = .ok (.aload_n 0, 1) := by decide +kernel
theorem dX7_span_73 : decode cX7_span 73 = .ok (.getfield 23, 3) := by decide +kernel
theorem dX7_span_76 : decode cX7_span 76 = .ok (.iload_n 1, 1) := by decide +kernel
theorem dX7_span_77 : decode cX7_span 77 = .ok (.iload 4, 2) := by decide +kernel
theorem dX7_span_79 : decode cX7_span 79 = .ok (.iastore, 1) := by decide +kernel
theorem dX7_span_80 : decode cX7_span 80 = .ok (.iload 4, 2) := by decide +kernel
theorem dX7_span_82 : decode cX7_span 82 = .ok (.iload_n 3, 1) := by decide +kernel
theorem dX7_span_83 : decode cX7_span 83 = .ok (.isub, 1) := by decide +kernel
theorem dX7_span_84 : decode cX7_span 84 = .ok (.ireturn, 1) := by decide +kernel
theorem dX7_tells_0 : decode cX7_tells 0 = .ok (.aload_n 0, 1) := by decide +kernel
theorem dX7_tells_1 : decode cX7_tells 1 = .ok (.iload_n 1, 1) := by decide +kernel
theorem dX7_tells_2 : decode cX7_tells 2 = .ok (.invokestatic 105, 3) := by decide +kernel
theorem dX7_tells_5 : decode cX7_tells 5 = .ok (.ifCond .ne 7, 3) := by decide +kernel
theorem dX7_tells_8 : decode cX7_tells 8 = .ok (.iconst 1, 1) := by decide +kernel
theorem dX7_tells_9 : decode cX7_tells 9 = .ok (.goto 26, 3) := by decide +kernel
theorem dX7_tells_12 : decode cX7_tells 12 = .ok (.iload_n 2, 1) := by decide +kernel
theorem dX7_tells_13 : decode cX7_tells 13 = .ok (.bipush 114, 2) := by decide +kernel
theorem dX7_tells_15 : decode cX7_tells 15 = .ok (.if_icmp .eq 15, 3) := by decide +kernel
theorem dX7_tells_18 : decode cX7_tells 18 = .ok (.iload_n 2, 1) := by decide +kernel
theorem dX7_tells_19 : decode cX7_tells 19 = .ok (.bipush 102, 2) := by decide +kernel
theorem dX7_tells_21 : decode cX7_tells 21 = .ok (.if_icmp .eq 9, 3) := by decide +kernel
theorem dX7_tells_24 : decode cX7_tells 24 = .ok (.iload_n 2, 1) := by decide +kernel
theorem dX7_tells_25 : decode cX7_tells 25 = .ok (.bipush 116, 2) := by decide +kernel
theorem dX7_tells_27 : decode cX7_tells 27 = .ok (.if_icmp .ne 7, 3) := by decide +kernel
theorem dX7_tells_30 : decode cX7_tells 30 = .ok (.iconst 0, 1) := by decide +kernel
theorem dX7_tells_31 : decode cX7_tells 31 = .ok (.goto 4, 3) := by decide +kernel
theorem dX7_tells_34 : decode cX7_tells 34 = .ok (.iconst 2, 1) := by decide +kernel
theorem dX7_tells_35 : decode cX7_tells 35 = .ok (.invokevirtual 73, 3) := by decide +kernel
theorem dX7_tells_38 : decode cX7_tells 38 = .ok (.ifCond .eq 5, 3) := by decide +kernel
theorem dX7_tells_41 : decode cX7_tells 41 = .ok (.iconst 0, 1) := by decide +kernel
theorem dX7_tells_42 : decode cX7_tells 42 = .ok (.ireturn, 1) := by decide +kernel
theorem dX7_tells_43 : decode cX7_tells 43 = .ok (.iload_n 2, 1) := by decide +kernel
theorem dX7_tells_44 : decode cX7_tells 44 = .ok (.bipush 114, 2) := by decide +kernel
theorem dX7_tells_46 : decode cX7_tells 46 = .ok (.if_icmp .ne 12, 3) := by decide +kernel
theorem dX7_tells_49 : decode cX7_tells 49 = .ok (.aload_n 0, 1) := by decide +kernel
theorem dX7_tells_50 : decode cX7_tells 50 = .ok (.getfield 17, 3) := by decide +kernel
theorem dX7_tells_53 : decode cX7_tells 53 = .ok (.iload_n 1, 1) := by decide +kernel
theorem dX7_tells_54 : decode cX7_tells 54 = .ok (.iaload, 1) := by decide +kernel
theorem dX7_tells_55 : decode cX7_tells 55 = .ok (.goto 24, 3) := by decide +kernel
theorem dX7_tells_58 : decode cX7_tells 58 = .ok (.iload_n 2, 1) := by decide +kernel
theorem dX7_tells_59 : decode cX7_tells 59 = .ok (.bipush 102, 2) := by decide +kernel
theorem dX7_tells_61 : decode cX7_tells 61 = .ok (.if_icmp .ne 12, 3) := by decide +kernel
theorem dX7_tells_64 : decode cX7_tells 64 = .ok (.aload_n 0, 1) := by decide +kernel
theorem dX7_tells_65 : decode cX7_tells 65 = .ok (.getfield 20, 3) := by decide +kernel
theorem dX7_tells_68 : decode cX7_tells 68 = .ok (.iload_n 1, 1) := by decide +kernel
theorem dX7_tells_69 : decode cX7_tells 69 = .ok (.iaload, 1) := by decide +kernel
theorem dX7_tells_70 : decode cX7_tells 70 = .ok (.goto 9, 3) := by decide +kernel
theorem dX7_tells_73 : decode cX7_tells 73 = .ok (.aload_n 0, 1) := by decide +kernel
theorem dX7_tells_74 : decode cX7_tells 74 = .ok (.getfield 23, 3) := by decide +kernel
theorem dX7_tells_77 : decode cX7_tells 77 = .ok (.iload_n 1, 1) := by decide +kernel
theorem dX7_tells_78 : decode cX7_tells 78 = .ok (.iaload, 1) := by decide +kernel
theorem dX7_tells_79 : decode cX7_tells 79 = .ok (.ireturn, 1) := by decide +kernel
theorem dX7_isFit_0 : decode cX7_isFit 0 = .ok (.aload_n 0, 1) := by decide +kernel
theorem dX7_isFit_1 : decode cX7_isFit 1 = .ok (.getfield 23, 3) := by decide +kernel
theorem dX7_isFit_4 : decode cX7_isFit 4 = .ok (.iload_n 2, 1) := by decide +kernel
theorem dX7_isFit_5 : decode cX7_isFit 5 = .ok (.iaload, 1) := by decide +kernel
theorem dX7_isFit_6 : decode cX7_isFit 6 = .ok (.aload_n 0, 1) := by decide +kernel
theorem dX7_isFit_7 : decode cX7_isFit 7 = .ok (.iload_n 1, 1) := by decide +kernel
theorem dX7_isFit_8 : decode cX7_isFit 8 = .ok (.aload_n 0, 1) := by decide +kernel
theorem dX7_isFit_9 : decode cX7_isFit 9 = .ok (.getfield 17, 3) := by decide +kernel
theorem dX7_isFit_12 : decode cX7_isFit 12 = .ok (.iload_n 2, 1) := by decide +kernel
theorem dX7_isFit_13 : decode cX7_isFit 13 = .ok (.iaload, 1) := by decide +kernel
theorem dX7_isFit_14 : decode cX7_isFit 14 = .ok (.invokevirtual 69, 3) := by decide +kernel
theorem dX7_isFit_17 : decode cX7_isFit 17 = .ok (.if_icmp .gt 7, 3) := by decide +kernel
theorem dX7_isFit_20 : decode cX7_isFit 20 = .ok (.iconst 1, 1) := by decide +kernel
theorem dX7_isFit_21 : decode cX7_isFit 21 = .ok (.goto 4, 3) := by decide +kernel
theorem dX7_isFit_24 : decode cX7_isFit 24 = .ok (.iconst 0, 1) := by decide +kernel
theorem dX7_isFit_25 : decode cX7_isFit 25 = .ok (.ireturn, 1) := by decide +kernel
theorem dX7_fits_0 : decode cX7_fits 0 = .ok (.aload_n 0, 1) := by decide +kernel
theorem dX7_fits_1 : decode cX7_fits 1 = .ok (.iload_n 1, 1) := by decide +kernel
theorem dX7_fits_2 : decode cX7_fits 2 = .ok (.invokestatic 57, 3) := by decide +kernel
theorem dX7_fits_5 : decode cX7_fits 5 = .ok (.ifCond .ne 7, 3) := by decide +kernel
theorem dX7_fits_8 : decode cX7_fits 8 = .ok (.iconst 1, 1) := by decide +kernel
theorem dX7_fits_9 : decode cX7_fits 9 = .ok (.goto 15, 3) := by decide +kernel
theorem dX7_fits_12 : decode cX7_fits 12 = .ok (.iload_n 2, 1) := by decide +kernel
theorem dX7_fits_13 : decode cX7_fits 13 = .ok (.invokestatic 105, 3) := by decide +kernel
theorem dX7_fits_16 : decode cX7_fits 16 = .ok (.ifCond .eq 7, 3) := by decide +kernel
theorem dX7_fits_19 : decode cX7_fits 19 = .ok (.iconst 0, 1) := by decide +kernel
theorem dX7_fits_20 : decode cX7_fits 20 = .ok (.goto 4, 3) := by decide +kernel
theorem dX7_fits_23 : decode cX7_fits 23 = .ok (.iconst 2, 1) := by decide +kernel
theorem dX7_fits_24 : decode cX7_fits 24 = .ok (.invokevirtual 73, 3) := by decide +kernel
theorem dX7_fits_27 : decode cX7_fits 27 = .ok (.ifCond .ne 16, 3) := by decide +kernel
theorem dX7_fits_30 : decode cX7_fits 30 = .ok (.aload_n 0, 1) := by decide +kernel
theorem dX7_fits_31 : decode cX7_fits 31 = .ok (.iload_n 1, 1) := by decide +kernel
theorem dX7_fits_32 : decode cX7_fits 32 = .ok (.iload_n 2, 1) := by decide +kernel
theorem dX7_fits_33 : decode cX7_fits 33 = .ok (.invokevirtual 110, 3) := by decide +kernel
theorem dX7_fits_36 : decode cX7_fits 36 = .ok (.ifCond .eq 7, 3) := by decide +kernel
theorem dX7_fits_39 : decode cX7_fits 39 = .ok (.iconst 1, 1) := by decide +kernel
theorem dX7_fits_40 : decode cX7_fits 40 = .ok (.goto 4, 3) := by decide +kernel
theorem dX7_fits_43 : decode cX7_fits 43 = .ok (.iconst 0, 1) := by decide +kernel
theorem dX7_fits_44 : decode cX7_fits 44 = .ok (.ireturn, 1) := by decide +kernel
theorem dX7_isLess_0 : decode cX7_isLess 0 = .ok (.iload 4, 2) := by decide +kernel
theorem dX7_isLess_2 : decode cX7_isLess 2 = .ok (.bipush 117, 2) := by decide +kernel
theorem dX7_isLess_4 : decode cX7_isLess 4 = .ok (.if_icmp .ne 42, 3) := by decide +kernel
theorem dX7_isLess_7 : decode cX7_isLess 7 = .ok (.lload_n 0, 1) := by decide +kernel
theorem dX7_isLess_8 : decode cX7_isLess 8 = .ok (.lconst 0, 1) := by decide +kernel
theorem dX7_isLess_9 : decode cX7_isLess 9 = .ok (.lcmp, 1) := by decide +kernel
theorem dX7_isLess_10 : decode cX7_isLess 10 = .ok (.ifCond .ge 7, 3) := by decide +kernel
theorem dX7_isLess_13 : decode cX7_isLess 13 = .ok (.iconst 1, 1) := by decide +kernel
theorem dX7_isLess_14 : decode cX7_isLess 14 = .ok (.goto 4, 3) := by decide +kernel
theorem dX7_isLess_17 : decode cX7_isLess 17 = .ok (.iconst 0, 1) := by decide +kernel
theorem dX7_isLess_18 : decode cX7_isLess 18 = .ok (.lload_n 2, 1) := by decide +kernel
theorem dX7_isLess_19 : decode cX7_isLess 19 = .ok (.lconst 0, 1) := by decide +kernel
theorem dX7_isLess_20 : decode cX7_isLess 20 = .ok (.lcmp, 1) := by decide +kernel
theorem dX7_isLess_21 : decode cX7_isLess 21 = .ok (.ifCond .ge 7, 3) := by decide +kernel
theorem dX7_isLess_24 : decode cX7_isLess 24 = .ok (.iconst 1, 1) := by decide +kernel
theorem dX7_isLess_25 : decode cX7_isLess 25 = .ok (.goto 4, 3) := by decide +kernel
theorem dX7_isLess_28 : decode cX7_isLess 28 = .ok (.iconst 0, 1) := by decide +kernel
theorem dX7_isLess_29 : decode cX7_isLess 29 = .ok (.if_icmp .eq 17, 3) := by decide +kernel
theorem dX7_isLess_32 : decode cX7_isLess 32 = .ok (.lload_n 2, 1) := by decide +kernel
theorem dX7_isLess_33 : decode cX7_isLess 33 = .ok (.lconst 0, 1) := by decide +kernel
theorem dX7_isLess_34 : decode cX7_isLess 34 = .ok (.lcmp, 1) := by decide +kernel
theorem dX7_isLess_35 : decode cX7_isLess 35 = .ok (.ifCond .ge 7, 3) := by decide +kernel
theorem dX7_isLess_38 : decode cX7_isLess 38 = .ok (.iconst 1, 1) := by decide +kernel
theorem dX7_isLess_39 : decode cX7_isLess 39 = .ok (.goto 18, 3) := by decide +kernel
theorem dX7_isLess_42 : decode cX7_isLess 42 = .ok (.iconst 0, 1) := by decide +kernel
theorem dX7_isLess_43 : decode cX7_isLess 43 = .ok (.goto 14, 3) := by decide +kernel
theorem dX7_isLess_46 : decode cX7_isLess 46 = .ok (.lload_n 0, 1) := by decide +kernel
theorem dX7_isLess_47 : decode cX7_isLess 47 = .ok (.lload_n 2, 1) := by decide +kernel
theorem dX7_isLess_48 : decode cX7_isLess 48 = .ok (.lcmp, 1) := by decide +kernel
theorem dX7_isLess_49 : decode cX7_isLess 49 = .ok (.ifCond .ge 7, 3) := by decide +kernel
theorem dX7_isLess_52 : decode cX7_isLess 52 = .ok (.iconst 1, 1) := by decide +kernel
theorem dX7_isLess_53 : decode cX7_isLess 53 = .ok (.goto 4, 3) := by decide +kernel
theorem dX7_isLess_56 : decode cX7_isLess 56 = .ok (.iconst 0, 1) := by decide +kernel
theorem dX7_isLess_57 : decode cX7_isLess 57 = .ok (.ireturn, 1) := by decide +kernel
theorem dX7_alike_0 : decode cX7_alike 0 = .ok (.iconst 0, 1) := by decide +kernel
theorem dX7_alike_1 : decode cX7_alike 1 = .ok (.istore 8, 2) := by decide +kernel
theorem dX7_alike_3 : decode cX7_alike 3 = .ok (.iload 8, 2) := by decide +kernel
theorem dX7_alike_5 : decode cX7_alike 5 = .ok (.iload 4, 2) := by decide +kernel
theorem dX7_alike_7 : decode cX7_alike 7 = .ok (.if_icmp .ge 52, 3) := by decide +kernel
theorem dX7_alike_10 : decode cX7_alike 10 = .ok (.iload 8, 2) := by decide +kernel
theorem dX7_alike_12 : decode cX7_alike 12 = .ok (.iload 7, 2) := by decide +kernel
theorem dX7_alike_14 : decode cX7_alike 14 = .ok (.if_icmp .ge 45, 3) := by decide +kernel
theorem dX7_alike_17 : decode cX7_alike 17 = .ok (.aload_n 0, 1) := by decide +kernel
theorem dX7_alike_18 : decode cX7_alike 18 = .ok (.getfield 7, 3) := by decide +kernel
theorem dX7_alike_21 : decode cX7_alike 21 = .ok (.aload_n 0, 1) := by decide +kernel
theorem dX7_alike_22 : decode cX7_alike 22 = .ok (.iload_n 1, 1) := by decide +kernel
theorem dX7_alike_23 : decode cX7_alike 23 = .ok (.iload_n 2, 1) := by decide +kernel
theorem dX7_alike_24 : decode cX7_alike 24 = .ok (.iload_n 3, 1) := by decide +kernel
theorem dX7_alike_25 : decode cX7_alike 25 = .ok (.iload 8, 2) := by decide +kernel
theorem dX7_alike_27 : decode cX7_alike 27 = .ok (.iadd, 1) := by decide +kernel
theorem dX7_alike_28 : decode cX7_alike 28 = .ok (.invokevirtual 76, 3) := by decide +kernel
theorem dX7_alike_31 : decode cX7_alike 31 = .ok (.laload, 1) := by decide +kernel
theorem dX7_alike_32 : decode cX7_alike 32 = .ok (.aload_n 0, 1) := by decide +kernel
theorem dX7_alike_33 : decode cX7_alike 33 = .ok (.getfield 7, 3) := by decide +kernel
theorem dX7_alike_36 : decode cX7_alike 36 = .ok (.aload_n 0, 1) := by decide +kernel
theorem dX7_alike_37 : decode cX7_alike 37 = .ok (.iload_n 1, 1) := by decide +kernel
theorem dX7_alike_38 : decode cX7_alike 38 = .ok (.iload 5, 2) := by decide +kernel
theorem dX7_alike_40 : decode cX7_alike 40 = .ok (.iload 6, 2) := by decide +kernel
theorem dX7_alike_42 : decode cX7_alike 42 = .ok (.iload 8, 2) := by decide +kernel
theorem dX7_alike_44 : decode cX7_alike 44 = .ok (.iadd, 1) := by decide +kernel
theorem dX7_alike_45 : decode cX7_alike 45 = .ok (.invokevirtual 76, 3) := by decide +kernel
theorem dX7_alike_48 : decode cX7_alike 48 = .ok (.laload, 1) := by decide +kernel
theorem dX7_alike_49 : decode cX7_alike 49 = .ok (.lcmp, 1) := by decide +kernel
theorem dX7_alike_50 : decode cX7_alike 50 = .ok (.ifCond .ne 9, 3) := by decide +kernel
theorem dX7_alike_53 : decode cX7_alike 53 = .ok (.iinc 8 1, 3) := by decide +kernel
theorem dX7_alike_56 : decode cX7_alike 56 = .ok (.goto (-53), 3) := by decide +kernel
theorem dX7_alike_59 : decode cX7_alike 59 = .ok (.iload 8, 2) := by decide +kernel
theorem dX7_alike_61 : decode cX7_alike 61 = .ok (.ireturn, 1) := by decide +kernel
theorem dX7_compared_0 : decode cX7_compared 0 = .ok (.aload_n 0, 1) := by decide +kernel
theorem dX7_compared_1 : decode cX7_compared 1 = .ok (.iload_n 1, 1) := by decide +kernel
theorem dX7_compared_2 : decode cX7_compared 2 = .ok (.iload_n 3, 1) := by decide +kernel
theorem dX7_compared_3 : decode cX7_compared 3 = .ok (.iload 4, 2) := by decide +kernel
theorem dX7_compared_5 : decode cX7_compared 5 = .ok (.iload 5, 2) := by decide +kernel
theorem dX7_compared_7 : decode cX7_compared 7 = .ok (.iload 6, 2) := by decide +kernel
theorem dX7_compared_9 : decode cX7_compared 9 = .ok (.iload 7, 2) := by decide +kernel
theorem dX7_compared_11 : decode cX7_compared 11 = .ok (.iload 8, 2) := by decide +kernel
theorem dX7_compared_13 : decode cX7_compared 13 = .ok (.invokevirtual 114, 3) := by decide +kernel
theorem dX7_compared_16 : decode cX7_compared 16 = .ok (.istore 9, 2) := by decide +kernel
theorem dX7_compared_18 : decode cX7_compared 18 = .ok (.iload 9, 2) := by decide +kernel
theorem dX7_compared_20 : decode cX7_compared 20 = .ok (.iload 5, 2) := by decide +kernel
theorem dX7_compared_22 : decode cX7_compared 22 = .ok (.if_icmp .eq 10, 3) := by decide +kernel
theorem dX7_compared_25 : decode cX7_compared 25 = .ok (.iload 9, 2) := by decide +kernel
theorem dX7_compared_27 : decode cX7_compared 27 = .ok (.iload 8, 2) := by decide +kernel
theorem dX7_compared_29 : decode cX7_compared 29 = .ok (.if_icmp .ne 27, 3) := by decide +kernel
theorem dX7_compared_32 : decode cX7_compared 32 = .ok (.iload 5, 2) := by decide +kernel
theorem dX7_compared_34 : decode cX7_compared 34 = .ok (.iload 8, 2) := by decide +kernel
theorem dX7_compared_36 : decode cX7_compared 36 = .ok (.if_icmp .ge 7, 3) := by decide +kernel
theorem dX7_compared_39 : decode cX7_compared 39 = .ok (.iconst (-1), 1) := by decide +kernel
theorem dX7_compared_40 : decode cX7_compared 40 = .ok (.goto 15, 3) := by decide +kernel
theorem dX7_compared_43 : decode cX7_compared 43 = .ok (.iload 5, 2) := by decide +kernel
theorem dX7_compared_45 : decode cX7_compared 45 = .ok (.iload 8, 2) := by decide +kernel
theorem dX7_compared_47 : decode cX7_compared 47 = .ok (.if_icmp .le 7, 3) := by decide +kernel
theorem dX7_compared_50 : decode cX7_compared 50 = .ok (.iconst 1, 1) := by decide +kernel
theorem dX7_compared_51 : decode cX7_compared 51 = .ok (.goto 4, 3) := by decide +kernel
theorem dX7_compared_54 : decode cX7_compared 54 = .ok (.iconst 0, 1) := by decide +kernel
theorem dX7_compared_55 : decode cX7_compared 55 = .ok (.ireturn, 1) := by decide +kernel
theorem dX7_compared_56 : decode cX7_compared 56 = .ok (.aload_n 0, 1) := by decide +kernel
theorem dX7_compared_57 : decode cX7_compared 57 = .ok (.getfield 7, 3) := by decide +kernel
theorem dX7_compared_60 : decode cX7_compared 60 = .ok (.aload_n 0, 1) := by decide +kernel
theorem dX7_compared_61 : decode cX7_compared 61 = .ok (.iload_n 1, 1) := by decide +kernel
theorem dX7_compared_62 : decode cX7_compared 62 = .ok (.iload_n 3, 1) := by decide +kernel
theorem dX7_compared_63 : decode cX7_compared 63 = .ok (.iload 4, 2) := by decide +kernel
theorem dX7_compared_65 : decode cX7_compared 65 = .ok (.iload 9, 2) := by decide +kernel
theorem dX7_compared_67 : decode cX7_compared 67 = .ok (.iadd, 1) := by decide +kernel
theorem dX7_compared_68 : decode cX7_compared 68 = .ok (.invokevirtual 76, 3) := by decide +kernel
theorem dX7_compared_71 : decode cX7_compared 71 = .ok (.laload, 1) := by decide +kernel
theorem dX7_compared_72 : decode cX7_compared 72 = .ok (.aload_n 0, 1) := by decide +kernel
theorem dX7_compared_73 : decode cX7_compared 73 = .ok (.getfield 7, 3) := by decide +kernel
theorem dX7_compared_76 : decode cX7_compared 76 = .ok (.aload_n 0, 1) := by decide +kernel
theorem dX7_compared_77 : decode cX7_compared 77 = .ok (.iload_n 1, 1) := by decide +kernel
theorem dX7_compared_78 : decode cX7_compared 78 = .ok (.iload 6, 2) := by decide +kernel
theorem dX7_compared_80 : decode cX7_compared 80 = .ok (.iload 7, 2) := by decide +kernel
theorem dX7_compared_82 : decode cX7_compared 82 = .ok (.iload 9, 2) := by decide +kernel
theorem dX7_compared_84 : decode cX7_compared 84 = .ok (.iadd, 1) := by decide +kernel
theorem dX7_compared_85 : decode cX7_compared 85 = .ok (.invokevirtual 76, 3) := by decide +kernel
theorem dX7_compared_88 : decode cX7_compared 88 = .ok (.laload, 1) := by decide +kernel
theorem dX7_compared_89 : decode cX7_compared 89 = .ok (.iload_n 2, 1) := by decide +kernel
theorem dX7_compared_90 : decode cX7_compared 90 = .ok (.invokestatic 118, 3) := by decide +kernel
theorem dX7_compared_93 : decode cX7_compared 93 = .ok (.ifCond .eq 7, 3) := by decide +kernel
theorem dX7_compared_96 : decode cX7_compared 96 = .ok (.iconst (-1), 1) := by decide +kernel
theorem dX7_compared_97 : decode cX7_compared 97 = .ok (.goto 4, 3) := by decide +kernel
theorem dX7_compared_100 : decode cX7_compared 100 = .ok (.iconst 1, 1) := by decide +kernel
theorem dX7_compared_101 : decode cX7_compared 101 = .ok (.ireturn, 1) := by decide +kernel
theorem dX7_answer_0 : decode cX7_answer 0 = .ok (.iload_n 2, 1) := by decide +kernel
theorem dX7_answer_1 : decode cX7_answer 1 = .ok (.bipush 99, 2) := by decide +kernel
theorem dX7_answer_3 : decode cX7_answer 3 = .ok (.if_icmp .eq 9, 3) := by decide +kernel
theorem dX7_answer_6 : decode cX7_answer 6 = .ok (.iload_n 2, 1) := by decide +kernel
theorem dX7_answer_7 : decode cX7_answer 7 = .ok (.bipush 117, 2) := by decide +kernel
theorem dX7_answer_9 : decode cX7_answer 9 = .ok (.if_icmp .ne 33, 3) := by decide +kernel
theorem dX7_answer_12 : decode cX7_answer 12 = .ok (.aload_n 0, 1) := by decide +kernel
theorem dX7_answer_13 : decode cX7_answer 13 = .ok (.iload_n 1, 1) := by decide +kernel
theorem dX7_answer_14 : decode cX7_answer 14 = .ok (.iload_n 2, 1) := by decide +kernel
theorem dX7_answer_15 : decode cX7_answer 15 = .ok (.bipush 99, 2) := by decide +kernel
theorem dX7_answer_17 : decode cX7_answer 17 = .ok (.if_icmp .ne 8, 3) := by decide +kernel
theorem dX7_answer_20 : decode cX7_answer 20 = .ok (.bipush 115, 2) := by decide +kernel
theorem dX7_answer_22 : decode cX7_answer 22 = .ok (.goto 5, 3) := by decide +kernel
theorem dX7_answer_25 : decode cX7_answer 25 = .ok (.bipush 117, 2) := by decide +kernel
theorem dX7_answer_27 : decode cX7_answer 27 = .ok (.iload_n 3, 1) := by decide +kernel
theorem dX7_answer_28 : decode cX7_answer 28 = .ok (.iload 4, 2) := by decide +kernel
theorem dX7_answer_30 : decode cX7_answer 30 = .ok (.iload 5, 2) := by decide +kernel
theorem dX7_answer_32 : decode cX7_answer 32 = .ok (.iload 6, 2) := by decide +kernel
theorem dX7_answer_34 : decode cX7_answer 34 = .ok (.iload 7, 2) := by decide +kernel
theorem dX7_answer_36 : decode cX7_answer 36 = .ok (.iload 8, 2) := by decide +kernel
theorem dX7_answer_38 : decode cX7_answer 38 = .ok (.invokevirtual 122, 3) := by decide +kernel
theorem dX7_answer_41 : decode cX7_answer 41 = .ok (.ireturn, 1) := by decide +kernel
theorem dX7_answer_42 : decode cX7_answer 42 = .ok (.aload_n 0, 1) := by decide +kernel
theorem dX7_answer_43 : decode cX7_answer 43 = .ok (.iload_n 1, 1) := by decide +kernel
theorem dX7_answer_44 : decode cX7_answer 44 = .ok (.iload_n 3, 1) := by decide +kernel
theorem dX7_answer_45 : decode cX7_answer 45 = .ok (.iload 4, 2) := by decide +kernel
theorem dX7_answer_47 : decode cX7_answer 47 = .ok (.iload 5, 2) := by decide +kernel
theorem dX7_answer_49 : decode cX7_answer 49 = .ok (.iload 6, 2) := by decide +kernel
theorem dX7_answer_51 : decode cX7_answer 51 = .ok (.iload 7, 2) := by decide +kernel
theorem dX7_answer_53 : decode cX7_answer 53 = .ok (.iload 8, 2) := by decide +kernel
theorem dX7_answer_55 : decode cX7_answer 55 = .ok (.invokevirtual 114, 3) := by decide +kernel
theorem dX7_answer_58 : decode cX7_answer 58 = .ok (.istore 9, 2) := by decide +kernel
theorem dX7_answer_60 : decode cX7_answer 60 = .ok (.iload 5, 2) := by decide +kernel
theorem dX7_answer_62 : decode cX7_answer 62 = .ok (.iload 8, 2) := by decide +kernel
theorem dX7_answer_64 : decode cX7_answer 64 = .ok (.if_icmp .ne 14, 3) := by decide +kernel
theorem dX7_answer_67 : decode cX7_answer 67 = .ok (.iload 9, 2) := by decide +kernel
theorem dX7_answer_69 : decode cX7_answer 69 = .ok (.iload 5, 2) := by decide +kernel
theorem dX7_answer_71 : decode cX7_answer 71 = .ok (.if_icmp .ne 7, 3) := by decide +kernel
theorem dX7_answer_74 : decode cX7_answer 74 = .ok (.iconst 1, 1) := by decide +kernel
theorem dX7_answer_75 : decode cX7_answer 75 = .ok (.goto 4, 3) := by decide +kernel
theorem dX7_answer_78 : decode cX7_answer 78 = .ok (.iconst 0, 1) := by decide +kernel
theorem dX7_answer_79 : decode cX7_answer 79 = .ok (.istore 10, 2) := by decide +kernel
theorem dX7_answer_81 : decode cX7_answer 81 = .ok (.iload_n 2, 1) := by decide +kernel
theorem dX7_answer_82 : decode cX7_answer 82 = .ok (.bipush 101, 2) := by decide +kernel
theorem dX7_answer_84 : decode cX7_answer 84 = .ok (.if_icmp .ne 16, 3) := by decide +kernel
theorem dX7_answer_87 : decode cX7_answer 87 = .ok (.iload 10, 2) := by decide +kernel
theorem dX7_answer_89 : decode cX7_answer 89 = .ok (.ifCond .eq 7, 3) := by decide +kernel
theorem dX7_answer_92 : decode cX7_answer 92 = .ok (.iconst 1, 1) := by decide +kernel
theorem dX7_answer_93 : decode cX7_answer 93 = .ok (.goto 18, 3) := by decide +kernel
theorem dX7_answer_96 : decode cX7_answer 96 = .ok (.iconst 0, 1) := by decide +kernel
theorem dX7_answer_97 : decode cX7_answer 97 = .ok (.goto 14, 3) := by decide +kernel
theorem dX7_answer_100 : decode cX7_answer 100 = .ok (.iload 10, 2) := by decide +kernel
theorem dX7_answer_102 : decode cX7_answer 102 = .ok (.ifCond .eq 7, 3) := by decide +kernel
theorem dX7_answer_105 : decode cX7_answer 105 = .ok (.iconst (-1), 1) := by decide +kernel
theorem dX7_answer_106 : decode cX7_answer 106 = .ok (.goto 5, 3) := by decide +kernel
theorem dX7_answer_109 : decode cX7_answer 109 = .ok (.iload 9, 2) := by decide +kernel
theorem dX7_answer_111 : decode cX7_answer 111 = .ok (.ireturn, 1) := by decide +kernel
theorem dX7_many_0 : decode cX7_many 0 = .ok (.aload_n 0, 1) := by decide +kernel
theorem dX7_many_1 : decode cX7_many 1 = .ok (.getfield 23, 3) := by decide +kernel
theorem dX7_many_4 : decode cX7_many 4 = .ok (.iload_n 1, 1) := by decide +kernel
theorem dX7_many_5 : decode cX7_many 5 = .ok (.iaload, 1) := by decide +kernel
theorem dX7_many_6 : decode cX7_many 6 = .ok (.aload_n 0, 1) := by decide +kernel
theorem dX7_many_7 : decode cX7_many 7 = .ok (.getfield 20, 3) := by decide +kernel
theorem dX7_many_10 : decode cX7_many 10 = .ok (.iload_n 1, 1) := by decide +kernel
theorem dX7_many_11 : decode cX7_many 11 = .ok (.iaload, 1) := by decide +kernel
theorem dX7_many_12 : decode cX7_many 12 = .ok (.isub, 1) := by decide +kernel
theorem dX7_many_13 : decode cX7_many 13 = .ok (.ireturn, 1) := by decide +kernel
theorem dX7_noWords_0 : decode cX7_noWords 0 = .ok (.iload_n 1, 1) := by decide +kernel
theorem dX7_noWords_1 : decode cX7_noWords 1 = .ok (.ifCond .ne 7, 3) := by decide +kernel
theorem dX7_noWords_4 : decode cX7_noWords 4 = .ok (.iconst 1, 1) := by decide +kernel
theorem dX7_noWords_5 : decode cX7_noWords 5 = .ok (.goto 46, 3) := by decide +kernel
theorem dX7_noWords_8 : decode cX7_noWords 8 = .ok (.iload_n 3, 1) := by decide +kernel
theorem dX7_noWords_9 : decode cX7_noWords 9 = .ok (.invokestatic 105, 3) := by decide +kernel
theorem dX7_noWords_12 : decode cX7_noWords 12 = .ok (.ifCond .eq 11, 3) := by decide +kernel
theorem dX7_noWords_15 : decode cX7_noWords 15 = .ok (.iload 4, 2) := by decide +kernel
theorem dX7_noWords_17 : decode cX7_noWords 17 = .ok (.invokestatic 105, 3) := by decide +kernel
theorem dX7_noWords_20 : decode cX7_noWords 20 = .ok (.ifCond .ne 7, 3) := by decide +kernel
theorem dX7_noWords_23 : decode cX7_noWords 23 = .ok (.iconst 2, 1) := by decide +kernel
theorem dX7_noWords_24 : decode cX7_noWords 24 = .ok (.goto 27, 3) := by decide +kernel
theorem dX7_noWords_27 : decode cX7_noWords 27 = .ok (.aload_n 0, 1) := by decide +kernel
theorem dX7_noWords_28 : decode cX7_noWords 28 = .ok (.iload_n 2, 1) := by decide +kernel
theorem dX7_noWords_29 : decode cX7_noWords 29 = .ok (.iload_n 3, 1) := by decide +kernel
theorem dX7_noWords_30 : decode cX7_noWords 30 = .ok (.invokevirtual 110, 3) := by decide +kernel
theorem dX7_noWords_33 : decode cX7_noWords 33 = .ok (.ifCond .eq 17, 3) := by decide +kernel
theorem dX7_noWords_36 : decode cX7_noWords 36 = .ok (.aload_n 0, 1) := by decide +kernel
theorem dX7_noWords_37 : decode cX7_noWords 37 = .ok (.iload_n 2, 1) := by decide +kernel
theorem dX7_noWords_38 : decode cX7_noWords 38 = .ok (.iload 4, 2) := by decide +kernel
theorem dX7_noWords_40 : decode cX7_noWords 40 = .ok (.invokevirtual 110, 3) := by decide +kernel
theorem dX7_noWords_43 : decode cX7_noWords 43 = .ok (.ifCond .eq 7, 3) := by decide +kernel
theorem dX7_noWords_46 : decode cX7_noWords 46 = .ok (.iconst 0, 1) := by decide +kernel
theorem dX7_noWords_47 : decode cX7_noWords 47 = .ok (.goto 4, 3) := by decide +kernel
theorem dX7_noWords_50 : decode cX7_noWords 50 = .ok (.iconst 3, 1) := by decide +kernel
theorem dX7_noWords_51 : decode cX7_noWords 51 = .ok (.ireturn, 1) := by decide +kernel
theorem dX7_asks_0 : decode cX7_asks 0 = .ok (.aload_n 0, 1) := by decide +kernel
theorem dX7_asks_1 : decode cX7_asks 1 = .ok (.aload_n 0, 1) := by decide +kernel
theorem dX7_asks_2 : decode cX7_asks 2 = .ok (.iload_n 1, 1) := by decide +kernel
theorem dX7_asks_3 : decode cX7_asks 3 = .ok (.invokestatic 57, 3) := by decide +kernel
theorem dX7_asks_6 : decode cX7_asks 6 = .ok (.ifCond .eq 14, 3) := by decide +kernel
theorem dX7_asks_9 : decode cX7_asks 9 = .ok (.iload_n 2, 1) := by decide +kernel
theorem dX7_asks_10 : decode cX7_asks 10 = .ok (.invokestatic 126, 3) := by decide +kernel
theorem dX7_asks_13 : decode cX7_asks 13 = .ok (.ifCond .eq 7, 3) := by decide +kernel
theorem dX7_asks_16 : decode cX7_asks 16 = .ok (.iconst 1, 1) := by decide +kernel
theorem dX7_asks_17 : decode cX7_asks 17 = .ok (.goto 4, 3) := by decide +kernel
theorem dX7_asks_20 : decode cX7_asks 20 = .ok (.iconst 0, 1) := by decide +kernel
theorem dX7_asks_21 : decode cX7_asks 21 = .ok (.iload_n 1, 1) := by decide +kernel
theorem dX7_asks_22 : decode cX7_asks 22 = .ok (.iload_n 3, 1) := by decide +kernel
theorem dX7_asks_23 : decode cX7_asks 23 = .ok (.iload 4, 2) := by decide +kernel
theorem dX7_asks_25 : decode cX7_asks 25 = .ok (.invokevirtual 129, 3) := by decide +kernel
theorem dX7_asks_28 : decode cX7_asks 28 = .ok (.invokevirtual 73, 3) := by decide +kernel
theorem dX7_asks_31 : decode cX7_asks 31 = .ok (.ifCond .eq 5, 3) := by decide +kernel
theorem dX7_asks_34 : decode cX7_asks 34 = .ok (.iconst 0, 1) := by decide +kernel
theorem dX7_asks_35 : decode cX7_asks 35 = .ok (.ireturn, 1) := by decide +kernel
theorem dX7_asks_36 : decode cX7_asks 36 = .ok (.aload_n 0, 1) := by decide +kernel
theorem dX7_asks_37 : decode cX7_asks 37 = .ok (.iload_n 1, 1) := by decide +kernel
theorem dX7_asks_38 : decode cX7_asks 38 = .ok (.iload_n 2, 1) := by decide +kernel
theorem dX7_asks_39 : decode cX7_asks 39 = .ok (.aload_n 0, 1) := by decide +kernel
theorem dX7_asks_40 : decode cX7_asks 40 = .ok (.getfield 17, 3) := by decide +kernel
theorem dX7_asks_43 : decode cX7_asks 43 = .ok (.iload_n 3, 1) := by decide +kernel
theorem dX7_asks_44 : decode cX7_asks 44 = .ok (.iaload, 1) := by decide +kernel
theorem dX7_asks_45 : decode cX7_asks 45 = .ok (.aload_n 0, 1) := by decide +kernel
theorem dX7_asks_46 : decode cX7_asks 46 = .ok (.getfield 20, 3) := by decide +kernel
theorem dX7_asks_49 : decode cX7_asks 49 = .ok (.iload_n 3, 1) := by decide +kernel
theorem dX7_asks_50 : decode cX7_asks 50 = .ok (.iaload, 1) := by decide +kernel
theorem dX7_asks_51 : decode cX7_asks 51 = .ok (.aload_n 0, 1) := by decide +kernel
theorem dX7_asks_52 : decode cX7_asks 52 = .ok (.iload_n 3, 1) := by decide +kernel
theorem dX7_asks_53 : decode cX7_asks 53 = .ok (.invokevirtual 133, 3) := by decide +kernel
theorem dX7_asks_56 : decode cX7_asks 56 = .ok (.aload_n 0, 1) := by decide +kernel
theorem dX7_asks_57 : decode cX7_asks 57 = .ok (.getfield 17, 3) := by decide +kernel
theorem dX7_asks_60 : decode cX7_asks 60 = .ok (.iload 4, 2) := by decide +kernel
theorem dX7_asks_62 : decode cX7_asks 62 = .ok (.iaload, 1) := by decide +kernel
theorem dX7_asks_63 : decode cX7_asks 63 = .ok (.aload_n 0, 1) := by decide +kernel
theorem dX7_asks_64 : decode cX7_asks 64 = .ok (.getfield 20, 3) := by decide +kernel
theorem dX7_asks_67 : decode cX7_asks 67 = .ok (.iload 4, 2) := by decide +kernel
theorem dX7_asks_69 : decode cX7_asks 69 = .ok (.iaload, 1) := by decide +kernel
theorem dX7_asks_70 : decode cX7_asks 70 = .ok (.aload_n 0, 1) := by decide +kernel
theorem dX7_asks_71 : decode cX7_asks 71 = .ok (.iload 4, 2) := by decide +kernel
theorem dX7_asks_73 : decode cX7_asks 73 = .ok (.invokevirtual 133, 3) := by decide +kernel
theorem dX7_asks_76 : decode cX7_asks 76 = .ok (.invokevirtual 137, 3) := by decide +kernel
theorem dX7_asks_79 : decode cX7_asks 79 = .ok (.ireturn, 1) := by decide +kernel
theorem dX7_asksRows_0 : decode cX7_asksRows 0 = .ok (.aload_n 0, 1) := by decide +kernel
theorem dX7_asksRows_1 : decode cX7_asksRows 1 = .ok (.iload_n 1, 1) := by decide +kernel
theorem dX7_asksRows_2 : decode cX7_asksRows 2 = .ok (.invokestatic 57, 3) := by decide +kernel
theorem dX7_asksRows_5 : decode cX7_asksRows 5 = .ok (.ifCond .eq 10, 3) := by decide +kernel
theorem dX7_asksRows_8 : decode cX7_asksRows 8 = .ok (.iload_n 2, 1) := by decide +kernel
theorem dX7_asksRows_9 : decode cX7_asksRows 9 = .ok (.invokestatic 126, 3) := by decide +kernel
theorem dX7_asksRows_12 : decode cX7_asksRows 12 = .ok (.ifCond .ne 7, 3) := by decide +kernel
theorem dX7_asksRows_15 : decode cX7_asksRows 15 = .ok (.iconst 1, 1) := by decide +kernel
theorem dX7_asksRows_16 : decode cX7_asksRows 16 = .ok (.goto 23, 3) := by decide +kernel
theorem dX7_asksRows_19 : decode cX7_asksRows 19 = .ok (.iload_n 3, 1) := by decide +kernel
theorem dX7_asksRows_20 : decode cX7_asksRows 20 = .ok (.invokestatic 61, 3) := by decide +kernel
theorem dX7_asksRows_23 : decode cX7_asksRows 23 = .ok (.ifCond .eq 15, 3) := by decide +kernel
theorem dX7_asksRows_26 : decode cX7_asksRows 26 = .ok (.iload 4, 2) := by decide +kernel
theorem dX7_asksRows_28 : decode cX7_asksRows 28 = .ok (.invokestatic 61, 3) := by decide +kernel
theorem dX7_asksRows_31 : decode cX7_asksRows 31 = .ok (.ifCond .eq 7, 3) := by decide +kernel
theorem dX7_asksRows_34 : decode cX7_asksRows 34 = .ok (.iconst 0, 1) := by decide +kernel
theorem dX7_asksRows_35 : decode cX7_asksRows 35 = .ok (.goto 4, 3) := by decide +kernel
theorem dX7_asksRows_38 : decode cX7_asksRows 38 = .ok (.iconst 2, 1) := by decide +kernel
theorem dX7_asksRows_39 : decode cX7_asksRows 39 = .ok (.invokevirtual 73, 3) := by decide +kernel
theorem dX7_asksRows_42 : decode cX7_asksRows 42 = .ok (.ifCond .eq 5, 3) := by decide +kernel
theorem dX7_asksRows_45 : decode cX7_asksRows 45 = .ok (.iconst 0, 1) := by decide +kernel
theorem dX7_asksRows_46 : decode cX7_asksRows 46 = .ok (.ireturn, 1) := by decide +kernel
theorem dX7_asksRows_47 : decode cX7_asksRows 47 = .ok (.aload_n 0, 1) := by decide +kernel
theorem dX7_asksRows_48 : decode cX7_asksRows 48 = .ok (.iload_n 1, 1) := by decide +kernel
theorem dX7_asksRows_49 : decode cX7_asksRows 49 = .ok (.iload_n 2, 1) := by decide +kernel
theorem dX7_asksRows_50 : decode cX7_asksRows 50 = .ok (.iload_n 3, 1) := by decide +kernel
theorem dX7_asksRows_51 : decode cX7_asksRows 51 = .ok (.iconst 0, 1) := by decide +kernel
theorem dX7_asksRows_52 : decode cX7_asksRows 52 = .ok (.aload_n 0, 1) := by decide +kernel
theorem dX7_asksRows_53 : decode cX7_asksRows 53 = .ok (.iload_n 1, 1) := by decide +kernel
theorem dX7_asksRows_54 : decode cX7_asksRows 54 = .ok (.iload_n 3, 1) := by decide +kernel
theorem dX7_asksRows_55 : decode cX7_asksRows 55 = .ok (.invokevirtual 69, 3) := by decide +kernel
theorem dX7_asksRows_58 : decode cX7_asksRows 58 = .ok (.iload 4, 2) := by decide +kernel
theorem dX7_asksRows_60 : decode cX7_asksRows 60 = .ok (.iconst 0, 1) := by decide +kernel
theorem dX7_asksRows_61 : decode cX7_asksRows 61 = .ok (.aload_n 0, 1) := by decide +kernel
theorem dX7_asksRows_62 : decode cX7_asksRows 62 = .ok (.iload_n 1, 1) := by decide +kernel
theorem dX7_asksRows_63 : decode cX7_asksRows 63 = .ok (.iload 4, 2) := by decide +kernel
theorem dX7_asksRows_65 : decode cX7_asksRows 65 = .ok (.invokevirtual 69, 3) := by decide +kernel
theorem dX7_asksRows_68 : decode cX7_asksRows 68 = .ok (.invokevirtual 137, 3) := by decide +kernel
theorem dX7_asksRows_71 : decode cX7_asksRows 71 = .ok (.ireturn, 1) := by decide +kernel
theorem dX7_refused_0 : decode cX7_refused 0 = .ok (.aload_n 0, 1) := by decide +kernel
theorem dX7_refused_1 : decode cX7_refused 1 = .ok (.iload_n 1, 1) := by decide +kernel
theorem dX7_refused_2 : decode cX7_refused 2 = .ok (.invokestatic 57, 3) := by decide +kernel
theorem dX7_refused_5 : decode cX7_refused 5 = .ok (.ifCond .eq 10, 3) := by decide +kernel
theorem dX7_refused_8 : decode cX7_refused 8 = .ok (.iload_n 2, 1) := by decide +kernel
theorem dX7_refused_9 : decode cX7_refused 9 = .ok (.invokestatic 126, 3) := by decide +kernel
theorem dX7_refused_12 : decode cX7_refused 12 = .ok (.ifCond .ne 7, 3) := by decide +kernel
theorem dX7_refused_15 : decode cX7_refused 15 = .ok (.iconst 1, 1) := by decide +kernel
theorem dX7_refused_16 : decode cX7_refused 16 = .ok (.goto 15, 3) := by decide +kernel
theorem dX7_refused_19 : decode cX7_refused 19 = .ok (.iload_n 3, 1) := by decide +kernel
theorem dX7_refused_20 : decode cX7_refused 20 = .ok (.invokestatic 61, 3) := by decide +kernel
theorem dX7_refused_23 : decode cX7_refused 23 = .ok (.ifCond .eq 7, 3) := by decide +kernel
theorem dX7_refused_26 : decode cX7_refused 26 = .ok (.iconst 0, 1) := by decide +kernel
theorem dX7_refused_27 : decode cX7_refused 27 = .ok (.goto 4, 3) := by decide +kernel
theorem dX7_refused_30 : decode cX7_refused 30 = .ok (.iconst 2, 1) := by decide +kernel
theorem dX7_refused_31 : decode cX7_refused 31 = .ok (.invokevirtual 73, 3) := by decide +kernel
theorem dX7_refused_34 : decode cX7_refused 34 = .ok (.ifCond .eq 5, 3) := by decide +kernel
theorem dX7_refused_37 : decode cX7_refused 37 = .ok (.iconst 0, 1) := by decide +kernel
theorem dX7_refused_38 : decode cX7_refused 38 = .ok (.ireturn, 1) := by decide +kernel
theorem dX7_refused_39 : decode cX7_refused 39 = .ok (.iload 4, 2) := by decide +kernel
theorem dX7_refused_41 : decode cX7_refused 41 = .ok (.iload 5, 2) := by decide +kernel
theorem dX7_refused_43 : decode cX7_refused 43 = .ok (.if_icmp .le 7, 3) := by decide +kernel
theorem dX7_refused_46 : decode cX7_refused 46 = .ok (.iconst 1, 1) := by decide +kernel
theorem dX7_refused_47 : decode cX7_refused 47 = .ok (.goto 4, 3) := by decide +kernel
theorem dX7_refused_50 : decode cX7_refused 50 = .ok (.iconst 0, 1) := by decide +kernel
theorem dX7_refused_51 : decode cX7_refused 51 = .ok (.istore 6, 2) := by decide +kernel
theorem dX7_refused_53 : decode cX7_refused 53 = .ok (.iload 4, 2) := by decide +kernel
theorem dX7_refused_55 : decode cX7_refused 55 = .ok (.ifCond .lt 14, 3) := by decide +kernel
theorem dX7_refused_58 : decode cX7_refused 58 = .ok (.iload 5, 2) := by decide +kernel
theorem dX7_refused_60 : decode cX7_refused 60 = .ok (.aload_n 0, 1) := by decide +kernel
theorem dX7_refused_61 : decode cX7_refused 61 = .ok (.iload_n 1, 1) := by decide +kernel
theorem dX7_refused_62 : decode cX7_refused 62 = .ok (.iload_n 3, 1) := by decide +kernel
theorem dX7_refused_63 : decode cX7_refused 63 = .ok (.invokevirtual 69, 3) := by decide +kernel
theorem dX7_refused_66 : decode cX7_refused 66 = .ok (.if_icmp .le 7, 3) := by decide +kernel
theorem dX7_refused_69 : decode cX7_refused 69 = .ok (.iconst 1, 1) := by decide +kernel
theorem dX7_refused_70 : decode cX7_refused 70 = .ok (.goto 4, 3) := by decide +kernel
theorem dX7_refused_73 : decode cX7_refused 73 = .ok (.iconst 0, 1) := by decide +kernel
theorem dX7_refused_74 : decode cX7_refused 74 = .ok (.istore 7, 2) := by decide +kernel
theorem dX7_refused_76 : decode cX7_refused 76 = .ok (.iload 6, 2) := by decide +kernel
theorem dX7_refused_78 : decode cX7_refused 78 = .ok (.ifCond .eq 12, 3) := by decide +kernel
theorem dX7_refused_81 : decode cX7_refused 81 = .ok (.iload 7, 2) := by decide +kernel
theorem dX7_refused_83 : decode cX7_refused 83 = .ok (.ifCond .eq 7, 3) := by decide +kernel
theorem dX7_refused_86 : decode cX7_refused 86 = .ok (.iconst 3, 1) := by decide +kernel
theorem dX7_refused_87 : decode cX7_refused 87 = .ok (.goto 22, 3) := by decide +kernel
theorem dX7_refused_90 : decode cX7_refused 90 = .ok (.iload 7, 2) := by decide +kernel
theorem dX7_refused_92 : decode cX7_refused 92 = .ok (.ifCond .eq 7, 3) := by decide +kernel
theorem dX7_refused_95 : decode cX7_refused 95 = .ok (.iconst 2, 1) := by decide +kernel
theorem dX7_refused_96 : decode cX7_refused 96 = .ok (.goto 13, 3) := by decide +kernel
theorem dX7_refused_99 : decode cX7_refused 99 = .ok (.iload 6, 2) := by decide +kernel
theorem dX7_refused_101 : decode cX7_refused 101 = .ok (.ifCond .eq 7, 3) := by decide +kernel
theorem dX7_refused_104 : decode cX7_refused 104 = .ok (.iconst 1, 1) := by decide +kernel
theorem dX7_refused_105 : decode cX7_refused 105 = .ok (.goto 4, 3) := by decide +kernel
theorem dX7_refused_108 : decode cX7_refused 108 = .ok (.iconst 0, 1) := by decide +kernel
theorem dX7_refused_109 : decode cX7_refused 109 = .ok (.ireturn, 1) := by decide +kernel
theorem dX7_common_0 : decode cX7_common 0 = .ok (.aload_n 0, 1) := by decide +kernel
theorem dX7_common_1 : decode cX7_common 1 = .ok (.aload_n 0, 1) := by decide +kernel
theorem dX7_common_2 : decode cX7_common 2 = .ok (.iload_n 1, 1) := by decide +kernel
theorem dX7_common_3 : decode cX7_common 3 = .ok (.invokestatic 57, 3) := by decide +kernel
theorem dX7_common_6 : decode cX7_common 6 = .ok (.iload_n 1, 1) := by decide +kernel
theorem dX7_common_7 : decode cX7_common 7 = .ok (.iload_n 2, 1) := by decide +kernel
theorem dX7_common_8 : decode cX7_common 8 = .ok (.iload_n 3, 1) := by decide +kernel
theorem dX7_common_9 : decode cX7_common 9 = .ok (.invokevirtual 129, 3) := by decide +kernel
theorem dX7_common_12 : decode cX7_common 12 = .ok (.invokevirtual 73, 3) := by decide +kernel
theorem dX7_common_15 : decode cX7_common 15 = .ok (.ifCond .eq 5, 3) := by decide +kernel
theorem dX7_common_18 : decode cX7_common 18 = .ok (.iconst 0, 1) := by decide +kernel
theorem dX7_common_19 : decode cX7_common 19 = .ok (.ireturn, 1) := by decide +kernel
theorem dX7_common_20 : decode cX7_common 20 = .ok (.aload_n 0, 1) := by decide +kernel
theorem dX7_common_21 : decode cX7_common 21 = .ok (.iload_n 1, 1) := by decide +kernel
theorem dX7_common_22 : decode cX7_common 22 = .ok (.aload_n 0, 1) := by decide +kernel
theorem dX7_common_23 : decode cX7_common 23 = .ok (.getfield 17, 3) := by decide +kernel
theorem dX7_common_26 : decode cX7_common 26 = .ok (.iload_n 2, 1) := by decide +kernel
theorem dX7_common_27 : decode cX7_common 27 = .ok (.iaload, 1) := by decide +kernel
theorem dX7_common_28 : decode cX7_common 28 = .ok (.aload_n 0, 1) := by decide +kernel
theorem dX7_common_29 : decode cX7_common 29 = .ok (.getfield 20, 3) := by decide +kernel
theorem dX7_common_32 : decode cX7_common 32 = .ok (.iload_n 2, 1) := by decide +kernel
theorem dX7_common_33 : decode cX7_common 33 = .ok (.iaload, 1) := by decide +kernel
theorem dX7_common_34 : decode cX7_common 34 = .ok (.aload_n 0, 1) := by decide +kernel
theorem dX7_common_35 : decode cX7_common 35 = .ok (.iload_n 2, 1) := by decide +kernel
theorem dX7_common_36 : decode cX7_common 36 = .ok (.invokevirtual 133, 3) := by decide +kernel
theorem dX7_common_39 : decode cX7_common 39 = .ok (.aload_n 0, 1) := by decide +kernel
theorem dX7_common_40 : decode cX7_common 40 = .ok (.getfield 17, 3) := by decide +kernel
theorem dX7_common_43 : decode cX7_common 43 = .ok (.iload_n 3, 1) := by decide +kernel
theorem dX7_common_44 : decode cX7_common 44 = .ok (.iaload, 1) := by decide +kernel
theorem dX7_common_45 : decode cX7_common 45 = .ok (.aload_n 0, 1) := by decide +kernel
theorem dX7_common_46 : decode cX7_common 46 = .ok (.getfield 20, 3) := by decide +kernel
theorem dX7_common_49 : decode cX7_common 49 = .ok (.iload_n 3, 1) := by decide +kernel
theorem dX7_common_50 : decode cX7_common 50 = .ok (.iaload, 1) := by decide +kernel
theorem dX7_common_51 : decode cX7_common 51 = .ok (.aload_n 0, 1) := by decide +kernel
theorem dX7_common_52 : decode cX7_common 52 = .ok (.iload_n 3, 1) := by decide +kernel
theorem dX7_common_53 : decode cX7_common 53 = .ok (.invokevirtual 133, 3) := by decide +kernel
theorem dX7_common_56 : decode cX7_common 56 = .ok (.invokevirtual 114, 3) := by decide +kernel
theorem dX7_common_59 : decode cX7_common 59 = .ok (.ireturn, 1) := by decide +kernel
theorem dX7_spans_0 : decode cX7_spans 0 = .ok (.aload_n 0, 1) := by decide +kernel
theorem dX7_spans_1 : decode cX7_spans 1 = .ok (.iload_n 1, 1) := by decide +kernel
theorem dX7_spans_2 : decode cX7_spans 2 = .ok (.iload_n 2, 1) := by decide +kernel
theorem dX7_spans_3 : decode cX7_spans 3 = .ok (.aload_n 0, 1) := by decide +kernel
theorem dX7_spans_4 : decode cX7_spans 4 = .ok (.getfield 17, 3) := by decide +kernel
theorem dX7_spans_7 : decode cX7_spans 7 = .ok (.iload_n 3, 1) := by decide +kernel
theorem dX7_spans_8 : decode cX7_spans 8 = .ok (.iaload, 1) := by decide +kernel
theorem dX7_spans_9 : decode cX7_spans 9 = .ok (.aload_n 0, 1) := by decide +kernel
theorem dX7_spans_10 : decode cX7_spans 10 = .ok (.getfield 20, 3) := by decide +kernel
theorem dX7_spans_13 : decode cX7_spans 13 = .ok (.iload_n 3, 1) := by decide +kernel
theorem dX7_spans_14 : decode cX7_spans 14 = .ok (.iaload, 1) := by decide +kernel
theorem dX7_spans_15 : decode cX7_spans 15 = .ok (.aload_n 0, 1) := by decide +kernel
theorem dX7_spans_16 : decode cX7_spans 16 = .ok (.iload_n 3, 1) := by decide +kernel
theorem dX7_spans_17 : decode cX7_spans 17 = .ok (.invokevirtual 133, 3) := by decide +kernel
theorem dX7_spans_20 : decode cX7_spans 20 = .ok (.aload_n 0, 1) := by decide +kernel
theorem dX7_spans_21 : decode cX7_spans 21 = .ok (.getfield 17, 3) := by decide +kernel
theorem dX7_spans_24 : decode cX7_spans 24 = .ok (.iload 4, 2) := by decide +kernel
theorem dX7_spans_26 : decode cX7_spans 26 = .ok (.iaload, 1) := by decide +kernel
theorem dX7_spans_27 : decode cX7_spans 27 = .ok (.aload_n 0, 1) := by decide +kernel
theorem dX7_spans_28 : decode cX7_spans 28 = .ok (.getfield 20, 3) := by decide +kernel
theorem dX7_spans_31 : decode cX7_spans 31 = .ok (.iload 4, 2) := by decide +kernel
theorem dX7_spans_33 : decode cX7_spans 33 = .ok (.iaload, 1) := by decide +kernel
theorem dX7_spans_34 : decode cX7_spans 34 = .ok (.aload_n 0, 1) := by decide +kernel
theorem dX7_spans_35 : decode cX7_spans 35 = .ok (.iload 4, 2) := by decide +kernel
theorem dX7_spans_37 : decode cX7_spans 37 = .ok (.invokevirtual 133, 3) := by decide +kernel
theorem dX7_spans_40 : decode cX7_spans 40 = .ok (.invokevirtual 122, 3) := by decide +kernel
theorem dX7_spans_43 : decode cX7_spans 43 = .ok (.ireturn, 1) := by decide +kernel
theorem dX7_rank_0 : decode cX7_rank 0 = .ok (.aload_n 0, 1) := by decide +kernel
theorem dX7_rank_1 : decode cX7_rank 1 = .ok (.aload_n 0, 1) := by decide +kernel
theorem dX7_rank_2 : decode cX7_rank 2 = .ok (.iload_n 1, 1) := by decide +kernel
theorem dX7_rank_3 : decode cX7_rank 3 = .ok (.invokestatic 57, 3) := by decide +kernel
theorem dX7_rank_6 : decode cX7_rank 6 = .ok (.ifCond .eq 14, 3) := by decide +kernel
theorem dX7_rank_9 : decode cX7_rank 9 = .ok (.iload_n 2, 1) := by decide +kernel
theorem dX7_rank_10 : decode cX7_rank 10 = .ok (.invokestatic 140, 3) := by decide +kernel
theorem dX7_rank_13 : decode cX7_rank 13 = .ok (.ifCond .eq 7, 3) := by decide +kernel
theorem dX7_rank_16 : decode cX7_rank 16 = .ok (.iconst 1, 1) := by decide +kernel
theorem dX7_rank_17 : decode cX7_rank 17 = .ok (.goto 4, 3) := by decide +kernel
theorem dX7_rank_20 : decode cX7_rank 20 = .ok (.iconst 0, 1) := by decide +kernel
theorem dX7_rank_21 : decode cX7_rank 21 = .ok (.iload_n 1, 1) := by decide +kernel
theorem dX7_rank_22 : decode cX7_rank 22 = .ok (.iload_n 3, 1) := by decide +kernel
theorem dX7_rank_23 : decode cX7_rank 23 = .ok (.iload_n 3, 1) := by decide +kernel
theorem dX7_rank_24 : decode cX7_rank 24 = .ok (.invokevirtual 129, 3) := by decide +kernel
theorem dX7_rank_27 : decode cX7_rank 27 = .ok (.invokevirtual 73, 3) := by decide +kernel
theorem dX7_rank_30 : decode cX7_rank 30 = .ok (.ifCond .eq 5, 3) := by decide +kernel
theorem dX7_rank_33 : decode cX7_rank 33 = .ok (.iconst 0, 1) := by decide +kernel
theorem dX7_rank_34 : decode cX7_rank 34 = .ok (.ireturn, 1) := by decide +kernel
theorem dX7_rank_35 : decode cX7_rank 35 = .ok (.iconst 0, 1) := by decide +kernel
theorem dX7_rank_36 : decode cX7_rank 36 = .ok (.istore 4, 2) := by decide +kernel
theorem dX7_rank_38 : decode cX7_rank 38 = .ok (.iconst 0, 1) := by decide +kernel
theorem dX7_rank_39 : decode cX7_rank 39 = .ok (.istore 5, 2) := by decide +kernel
theorem dX7_rank_41 : decode cX7_rank 41 = .ok (.iload 5, 2) := by decide +kernel
theorem dX7_rank_43 : decode cX7_rank 43 = .ok (.bipush 12, 2) := by decide +kernel
theorem dX7_rank_45 : decode cX7_rank 45 = .ok (.if_icmp .ge 41, 3) := by decide +kernel
theorem dX7_rank_48 : decode cX7_rank 48 = .ok (.iload 4, 2) := by decide +kernel
theorem dX7_rank_50 : decode cX7_rank 50 = .ok (.aload_n 0, 1) := by decide +kernel
theorem dX7_rank_51 : decode cX7_rank 51 = .ok (.iload_n 1, 1) := by decide +kernel
theorem dX7_rank_52 : decode cX7_rank 52 = .ok (.iload 5, 2) := by decide +kernel
theorem dX7_rank_54 : decode cX7_rank 54 = .ok (.invokevirtual 110, 3) := by decide +kernel
theorem dX7_rank_57 : decode cX7_rank 57 = .ok (.ifCond .eq 19, 3) := by decide +kernel
theorem dX7_rank_60 : decode cX7_rank 60 = .ok (.aload_n 0, 1) := by decide +kernel
theorem dX7_rank_61 : decode cX7_rank 61 = .ok (.iload_n 1, 1) := by decide +kernel
theorem dX7_rank_62 : decode cX7_rank 62 = .ok (.iload_n 2, 1) := by decide +kernel
theorem dX7_rank_63 : decode cX7_rank 63 = .ok (.iload 5, 2) := by decide +kernel
theorem dX7_rank_65 : decode cX7_rank 65 = .ok (.iload_n 3, 1) := by decide +kernel
theorem dX7_rank_66 : decode cX7_rank 66 = .ok (.invokevirtual 143, 3) := by decide +kernel
theorem dX7_rank_69 : decode cX7_rank 69 = .ok (.ifCond .ge 7, 3) := by decide +kernel
theorem dX7_rank_72 : decode cX7_rank 72 = .ok (.iconst 1, 1) := by decide +kernel
theorem dX7_rank_73 : decode cX7_rank 73 = .ok (.goto 4, 3) := by decide +kernel
theorem dX7_rank_76 : decode cX7_rank 76 = .ok (.iconst 0, 1) := by decide +kernel
theorem dX7_rank_77 : decode cX7_rank 77 = .ok (.iadd, 1) := by decide +kernel
theorem dX7_rank_78 : decode cX7_rank 78 = .ok (.istore 4, 2) := by decide +kernel
theorem dX7_rank_80 : decode cX7_rank 80 = .ok (.iinc 5 1, 3) := by decide +kernel
theorem dX7_rank_83 : decode cX7_rank 83 = .ok (.goto (-42), 3) := by decide +kernel
theorem dX7_rank_86 : decode cX7_rank 86 = .ok (.iload 4, 2) := by decide +kernel
theorem dX7_rank_88 : decode cX7_rank 88 = .ok (.ireturn, 1) := by decide +kernel
theorem dX7_sort_0 : decode cX7_sort 0 = .ok (.aload_n 0, 1) := by decide +kernel
theorem dX7_sort_1 : decode cX7_sort 1 = .ok (.iload_n 1, 1) := by decide +kernel
theorem dX7_sort_2 : decode cX7_sort 2 = .ok (.invokestatic 57, 3) := by decide +kernel
theorem dX7_sort_5 : decode cX7_sort 5 = .ok (.ifCond .eq 14, 3) := by decide +kernel
theorem dX7_sort_8 : decode cX7_sort 8 = .ok (.iload_n 2, 1) := by decide +kernel
theorem dX7_sort_9 : decode cX7_sort 9 = .ok (.invokestatic 140, 3) := by decide +kernel
theorem dX7_sort_12 : decode cX7_sort 12 = .ok (.ifCond .eq 7, 3) := by decide +kernel
theorem dX7_sort_15 : decode cX7_sort 15 = .ok (.iconst 0, 1) := by decide +kernel
theorem dX7_sort_16 : decode cX7_sort 16 = .ok (.goto 4, 3) := by decide +kernel
theorem dX7_sort_19 : decode cX7_sort 19 = .ok (.iconst 1, 1) := by decide +kernel
theorem dX7_sort_20 : decode cX7_sort 20 = .ok (.invokevirtual 73, 3) := by decide +kernel
theorem dX7_sort_23 : decode cX7_sort 23 = .ok (.ifCond .eq 5, 3) := by decide +kernel
theorem dX7_sort_26 : decode cX7_sort 26 = .ok (.iconst 0, 1) := by decide +kernel
theorem dX7_sort_27 : decode cX7_sort 27 = .ok (.ireturn, 1) := by decide +kernel
theorem dX7_sort_28 : decode cX7_sort 28 = .ok (.aload_n 0, 1) := by decide +kernel
theorem dX7_sort_29 : decode cX7_sort 29 = .ok (.iconst 0, 1) := by decide +kernel
theorem dX7_sort_30 : decode cX7_sort 30 = .ok (.putfield 147, 3) := by decide +kernel
theorem dX7_sort_33 : decode cX7_sort 33 = .ok (.iconst 0, 1) := by decide +kernel
theorem dX7_sort_34 : decode cX7_sort 34 = .ok (.istore_n 3, 1) := by decide +kernel
theorem dX7_sort_35 : decode cX7_sort 35 = .ok (.iload_n 3, 1) := by decide +kernel
theorem dX7_sort_36 : decode cX7_sort 36 = .ok (.bipush 12, 2) := by decide +kernel
theorem dX7_sort_38 : decode cX7_sort 38 = .ok (.if_icmp .ge 109, 3) := by decide +kernel
theorem dX7_sort_41 : decode cX7_sort 41 = .ok (.aload_n 0, 1) := by decide +kernel
theorem dX7_sort_42 : decode cX7_sort 42 = .ok (.iload_n 1, 1) := by decide +kernel
theorem dX7_sort_43 : decode cX7_sort 43 = .ok (.iload_n 3, 1) := by decide +kernel
theorem dX7_sort_44 : decode cX7_sort 44 = .ok (.invokevirtual 110, 3) := by decide +kernel
theorem dX7_sort_47 : decode cX7_sort 47 = .ok (.ifCond .ne 6, 3) := by decide +kernel
theorem dX7_sort_50 : decode cX7_sort 50 = .ok (.goto 91, 3) := by decide +kernel
theorem dX7_sort_53 : decode cX7_sort 53 = .ok (.iconst 0, 1) := by decide +kernel
theorem dX7_sort_54 : decode cX7_sort 54 = .ok (.istore 4, 2) := by decide +kernel
theorem dX7_sort_56 : decode cX7_sort 56 = .ok (.iconst 0, 1) := by decide +kernel
theorem dX7_sort_57 : decode cX7_sort 57 = .ok (.istore 5, 2) := by decide +kernel
theorem dX7_sort_59 : decode cX7_sort 59 = .ok (.iload 5, 2) := by decide +kernel
theorem dX7_sort_61 : decode cX7_sort 61 = .ok (.bipush 12, 2) := by decide +kernel
theorem dX7_sort_63 : decode cX7_sort 63 = .ok (.if_icmp .ge 60, 3) := by decide +kernel
theorem dX7_sort_66 : decode cX7_sort 66 = .ok (.aload_n 0, 1) := by decide +kernel
theorem dX7_sort_67 : decode cX7_sort 67 = .ok (.iload_n 1, 1) := by decide +kernel
theorem dX7_sort_68 : decode cX7_sort 68 = .ok (.iload 5, 2) := by decide +kernel
theorem dX7_sort_70 : decode cX7_sort 70 = .ok (.invokevirtual 110, 3) := by decide +kernel
theorem dX7_sort_73 : decode cX7_sort 73 = .ok (.ifCond .eq 15, 3) := by decide +kernel
theorem dX7_sort_76 : decode cX7_sort 76 = .ok (.aload_n 0, 1) := by decide +kernel
theorem dX7_sort_77 : decode cX7_sort 77 = .ok (.iload_n 1, 1) := by decide +kernel
theorem dX7_sort_78 : decode cX7_sort 78 = .ok (.iload_n 2, 1) := by decide +kernel
theorem dX7_sort_79 : decode cX7_sort 79 = .ok (.iload 5, 2) := by decide +kernel
theorem dX7_sort_81 : decode cX7_sort 81 = .ok (.iload_n 3, 1) := by decide +kernel
theorem dX7_sort_82 : decode cX7_sort 82 = .ok (.invokevirtual 143, 3) := by decide +kernel
theorem dX7_sort_85 : decode cX7_sort 85 = .ok (.goto 4, 3) := by decide +kernel
theorem dX7_sort_88 : decode cX7_sort 88 = .ok (.iconst 1, 1) := by decide +kernel
theorem dX7_sort_89 : decode cX7_sort 89 = .ok (.istore 6, 2) := by decide +kernel
theorem dX7_sort_91 : decode cX7_sort 91 = .ok (.iload 4, 2) := by decide +kernel
theorem dX7_sort_93 : decode cX7_sort 93 = .ok (.iload 6, 2) := by decide +kernel
theorem dX7_sort_95 : decode cX7_sort 95 = .ok (.ifCond .lt 14, 3) := by decide +kernel
theorem dX7_sort_98 : decode cX7_sort 98 = .ok (.iload 6, 2) := by decide +kernel
theorem dX7_sort_100 : decode cX7_sort 100 = .ok (.ifCond .ne 13, 3) := by decide +kernel
theorem dX7_sort_103 : decode cX7_sort 103 = .ok (.iload 5, 2) := by decide +kernel
theorem dX7_sort_105 : decode cX7_sort 105 = .ok (.iload_n 3, 1) := by decide +kernel
theorem dX7_sort_106 : decode cX7_sort 106 = .ok (.if_icmp .ge 7, 3) := by decide +kernel
theorem dX7_sort_109 : decode cX7_sort 109 = .ok (.iconst 1, 1) := by decide +kernel
theorem dX7_sort_110 : decode cX7_sort 110 = .ok (.goto 4, 3) := by decide +kernel
theorem dX7_sort_113 : decode cX7_sort 113 = .ok (.iconst 0, 1) := by decide +kernel
theorem dX7_sort_114 : decode cX7_sort 114 = .ok (.iadd, 1) := by decide +kernel
theorem dX7_sort_115 : decode cX7_sort 115 = .ok (.istore 4, 2) := by decide +kernel
theorem dX7_sort_117 : decode cX7_sort 117 = .ok (.iinc 5 1, 3) := by decide +kernel
theorem dX7_sort_120 : decode cX7_sort 120 = .ok (.goto (-61), 3) := by decide +kernel
theorem dX7_sort_123 : decode cX7_sort 123 = .ok (.aload_n 0, 1) := by decide +kernel
theorem dX7_sort_124 : decode cX7_sort 124 = .ok (.getfield 26, 3) := by decide +kernel
theorem dX7_sort_127 : decode cX7_sort 127 = .ok (.iload 4, 2) := by decide +kernel
theorem dX7_sort_129 : decode cX7_sort 129 = .ok (.iload_n 3, 1) := by decide +kernel
theorem dX7_sort_130 : decode cX7_sort 130 = .ok (.iastore, 1) := by decide +kernel
theorem dX7_sort_131 : decode cX7_sort 131 = .ok (.aload_n 0, 1) := by decide +kernel
theorem dX7_sort_132 : decode cX7_sort 132 = .ok (.dup, 1) := by decide +kernel
theorem dX7_sort_133 : decode cX7_sort 133 = .ok (.getfield 147, 3) := by decide +kernel
theorem dX7_sort_136 : decode cX7_sort 136 = .ok (.iconst 1, 1) := by decide +kernel
theorem dX7_sort_137 : decode cX7_sort 137 = .ok (.iadd, 1) := by decide +kernel
theorem dX7_sort_138 : decode cX7_sort 138 = .ok (.putfield 147, 3) := by decide +kernel
theorem dX7_sort_141 : decode cX7_sort 141 = .ok (.iinc 3 1, 3) := by decide +kernel
theorem dX7_sort_144 : decode cX7_sort 144 = .ok (.goto (-109), 3) := by decide +kernel
theorem dX7_sort_147 : decode cX7_sort 147 = .ok (.aload_n 0, 1) := by decide +kernel
theorem dX7_sort_148 : decode cX7_sort 148 = .ok (.getfield 147, 3) := by decide +kernel
theorem dX7_sort_151 : decode cX7_sort 151 = .ok (.ireturn, 1) := by decide +kernel
theorem dX7_sorted_0 : decode cX7_sorted 0 = .ok (.aload_n 0, 1) := by decide +kernel
theorem dX7_sorted_1 : decode cX7_sorted 1 = .ok (.iload_n 1, 1) := by decide +kernel
theorem dX7_sorted_2 : decode cX7_sorted 2 = .ok (.i2l, 1) := by decide +kernel
theorem dX7_sorted_3 : decode cX7_sorted 3 = .ok (.lconst 0, 1) := by decide +kernel
theorem dX7_sorted_4 : decode cX7_sorted 4 = .ok (.aload_n 0, 1) := by decide +kernel
theorem dX7_sorted_5 : decode cX7_sorted 5 = .ok (.getfield 147, 3) := by decide +kernel
theorem dX7_sorted_8 : decode cX7_sorted 8 = .ok (.iconst 1, 1) := by decide +kernel
theorem dX7_sorted_9 : decode cX7_sorted 9 = .ok (.isub, 1) := by decide +kernel
theorem dX7_sorted_10 : decode cX7_sorted 10 = .ok (.i2l, 1) := by decide +kernel
theorem dX7_sorted_11 : decode cX7_sorted 11 = .ok (.invokestatic 39, 3) := by decide +kernel
theorem dX7_sorted_14 : decode cX7_sorted 14 = .ok (.ifCond .eq 7, 3) := by decide +kernel
theorem dX7_sorted_17 : decode cX7_sorted 17 = .ok (.iconst 0, 1) := by decide +kernel
theorem dX7_sorted_18 : decode cX7_sorted 18 = .ok (.goto 4, 3) := by decide +kernel
theorem dX7_sorted_21 : decode cX7_sorted 21 = .ok (.iconst 1, 1) := by decide +kernel
theorem dX7_sorted_22 : decode cX7_sorted 22 = .ok (.invokevirtual 73, 3) := by decide +kernel
theorem dX7_sorted_25 : decode cX7_sorted 25 = .ok (.ifCond .eq 7, 3) := by decide +kernel
theorem dX7_sorted_28 : decode cX7_sorted 28 = .ok (.iconst 0, 1) := by decide +kernel
theorem dX7_sorted_29 : decode cX7_sorted 29 = .ok (.goto 9, 3) := by decide +kernel
theorem dX7_sorted_32 : decode cX7_sorted 32 = .ok (.aload_n 0, 1) := by decide +kernel
theorem dX7_sorted_33 : decode cX7_sorted 33 = .ok (.getfield 26, 3) := by decide +kernel
theorem dX7_sorted_36 : decode cX7_sorted 36 = .ok (.iload_n 1, 1) := by decide +kernel
theorem dX7_sorted_37 : decode cX7_sorted 37 = .ok (.iaload, 1) := by decide +kernel
theorem dX7_sorted_38 : decode cX7_sorted 38 = .ok (.ireturn, 1) := by decide +kernel
theorem dX7_noOrder_0 : decode cX7_noOrder 0 = .ok (.iload_n 1, 1) := by decide +kernel
theorem dX7_noOrder_1 : decode cX7_noOrder 1 = .ok (.invokestatic 57, 3) := by decide +kernel
theorem dX7_noOrder_4 : decode cX7_noOrder 4 = .ok (.ifCond .eq 10, 3) := by decide +kernel
theorem dX7_noOrder_7 : decode cX7_noOrder 7 = .ok (.iload_n 2, 1) := by decide +kernel
theorem dX7_noOrder_8 : decode cX7_noOrder 8 = .ok (.invokestatic 140, 3) := by decide +kernel
theorem dX7_noOrder_11 : decode cX7_noOrder 11 = .ok (.ifCond .ne 7, 3) := by decide +kernel
theorem dX7_noOrder_14 : decode cX7_noOrder 14 = .ok (.iconst 1, 1) := by decide +kernel
theorem dX7_noOrder_15 : decode cX7_noOrder 15 = .ok (.goto 15, 3) := by decide +kernel
theorem dX7_noOrder_18 : decode cX7_noOrder 18 = .ok (.iload_n 3, 1) := by decide +kernel
theorem dX7_noOrder_19 : decode cX7_noOrder 19 = .ok (.invokestatic 61, 3) := by decide +kernel
theorem dX7_noOrder_22 : decode cX7_noOrder 22 = .ok (.ifCond .eq 7, 3) := by decide +kernel
theorem dX7_noOrder_25 : decode cX7_noOrder 25 = .ok (.iconst 0, 1) := by decide +kernel
theorem dX7_noOrder_26 : decode cX7_noOrder 26 = .ok (.goto 4, 3) := by decide +kernel
theorem dX7_noOrder_29 : decode cX7_noOrder 29 = .ok (.iconst 2, 1) := by decide +kernel
theorem dX7_noOrder_30 : decode cX7_noOrder 30 = .ok (.ireturn, 1) := by decide +kernel
theorem dX7_endings_0 : decode cX7_endings 0 = .ok (.aload_n 0, 1) := by decide +kernel
theorem dX7_endings_1 : decode cX7_endings 1 = .ok (.iload_n 1, 1) := by decide +kernel
theorem dX7_endings_2 : decode cX7_endings 2 = .ok (.iload_n 2, 1) := by decide +kernel
theorem dX7_endings_3 : decode cX7_endings 3 = .ok (.iload_n 3, 1) := by decide +kernel
theorem dX7_endings_4 : decode cX7_endings 4 = .ok (.iload 5, 2) := by decide +kernel
theorem dX7_endings_6 : decode cX7_endings 6 = .ok (.iload 4, 2) := by decide +kernel
theorem dX7_endings_8 : decode cX7_endings 8 = .ok (.iload 5, 2) := by decide +kernel
theorem dX7_endings_10 : decode cX7_endings 10 = .ok (.isub, 1) := by decide +kernel
theorem dX7_endings_11 : decode cX7_endings 11 = .ok (.iload_n 3, 1) := by decide +kernel
theorem dX7_endings_12 : decode cX7_endings 12 = .ok (.iload 6, 2) := by decide +kernel
theorem dX7_endings_14 : decode cX7_endings 14 = .ok (.iload 4, 2) := by decide +kernel
theorem dX7_endings_16 : decode cX7_endings 16 = .ok (.iload 6, 2) := by decide +kernel
theorem dX7_endings_18 : decode cX7_endings 18 = .ok (.isub, 1) := by decide +kernel
theorem dX7_endings_19 : decode cX7_endings 19 = .ok (.invokevirtual 122, 3) := by decide +kernel
theorem dX7_endings_22 : decode cX7_endings 22 = .ok (.ireturn, 1) := by decide +kernel
theorem dX7_ending_0 : decode cX7_ending 0 = .ok (.aload_n 0, 1) := by decide +kernel
theorem dX7_ending_1 : decode cX7_ending 1 = .ok (.iload_n 1, 1) := by decide +kernel
theorem dX7_ending_2 : decode cX7_ending 2 = .ok (.iload_n 2, 1) := by decide +kernel
theorem dX7_ending_3 : decode cX7_ending 3 = .ok (.iload_n 3, 1) := by decide +kernel
theorem dX7_ending_4 : decode cX7_ending 4 = .ok (.invokevirtual 150, 3) := by decide +kernel
theorem dX7_ending_7 : decode cX7_ending 7 = .ok (.istore 5, 2) := by decide +kernel
theorem dX7_ending_9 : decode cX7_ending 9 = .ok (.aload_n 0, 1) := by decide +kernel
theorem dX7_ending_10 : decode cX7_ending 10 = .ok (.iload 5, 2) := by decide +kernel
theorem dX7_ending_12 : decode cX7_ending 12 = .ok (.ifCond .le 8, 3) := by decide +kernel
theorem dX7_ending_15 : decode cX7_ending 15 = .ok (.iload 5, 2) := by decide +kernel
theorem dX7_ending_17 : decode cX7_ending 17 = .ok (.goto 27, 3) := by decide +kernel
theorem dX7_ending_20 : decode cX7_ending 20 = .ok (.iload 4, 2) := by decide +kernel
theorem dX7_ending_22 : decode cX7_ending 22 = .ok (.i2l, 1) := by decide +kernel
theorem dX7_ending_23 : decode cX7_ending 23 = .ok (.lconst 0, 1) := by decide +kernel
theorem dX7_ending_24 : decode cX7_ending 24 = .ok (.aload_n 0, 1) := by decide +kernel
theorem dX7_ending_25 : decode cX7_ending 25 = .ok (.iload_n 1, 1) := by decide +kernel
theorem dX7_ending_26 : decode cX7_ending 26 = .ok (.iload_n 3, 1) := by decide +kernel
theorem dX7_ending_27 : decode cX7_ending 27 = .ok (.invokevirtual 69, 3) := by decide +kernel
theorem dX7_ending_30 : decode cX7_ending 30 = .ok (.iconst 1, 1) := by decide +kernel
theorem dX7_ending_31 : decode cX7_ending 31 = .ok (.isub, 1) := by decide +kernel
theorem dX7_ending_32 : decode cX7_ending 32 = .ok (.i2l, 1) := by decide +kernel
theorem dX7_ending_33 : decode cX7_ending 33 = .ok (.invokestatic 39, 3) := by decide +kernel
theorem dX7_ending_36 : decode cX7_ending 36 = .ok (.ifCond .eq 7, 3) := by decide +kernel
theorem dX7_ending_39 : decode cX7_ending 39 = .ok (.iconst 0, 1) := by decide +kernel
theorem dX7_ending_40 : decode cX7_ending 40 = .ok (.goto 4, 3) := by decide +kernel
theorem dX7_ending_43 : decode cX7_ending 43 = .ok (.iconst 2, 1) := by decide +kernel
theorem dX7_ending_44 : decode cX7_ending 44 = .ok (.invokevirtual 73, 3) := by decide +kernel
theorem dX7_ending_47 : decode cX7_ending 47 = .ok (.ifCond .eq 5, 3) := by decide +kernel
theorem dX7_ending_50 : decode cX7_ending 50 = .ok (.iconst 0, 1) := by decide +kernel
theorem dX7_ending_51 : decode cX7_ending 51 = .ok (.ireturn, 1) := by decide +kernel
theorem dX7_ending_52 : decode cX7_ending 52 = .ok (.aload_n 0, 1) := by decide +kernel
theorem dX7_ending_53 : decode cX7_ending 53 = .ok (.iload_n 1, 1) := by decide +kernel
theorem dX7_ending_54 : decode cX7_ending 54 = .ok (.iload_n 3, 1) := by decide +kernel
theorem dX7_ending_55 : decode cX7_ending 55 = .ok (.invokevirtual 69, 3) := by decide +kernel
theorem dX7_ending_58 : decode cX7_ending 58 = .ok (.istore 6, 2) := by decide +kernel
theorem dX7_ending_60 : decode cX7_ending 60 = .ok (.iconst 0, 1) := by decide +kernel
theorem dX7_ending_61 : decode cX7_ending 61 = .ok (.istore 7, 2) := by decide +kernel
theorem dX7_ending_63 : decode cX7_ending 63 = .ok (.iload 7, 2) := by decide +kernel
theorem dX7_ending_65 : decode cX7_ending 65 = .ok (.iload 6, 2) := by decide +kernel
theorem dX7_ending_67 : decode cX7_ending 67 = .ok (.if_icmp .ge 64, 3) := by decide +kernel
theorem dX7_ending_70 : decode cX7_ending 70 = .ok (.iconst 0, 1) := by decide +kernel
theorem dX7_ending_71 : decode cX7_ending 71 = .ok (.istore 8, 2) := by decide +kernel
theorem dX7_ending_73 : decode cX7_ending 73 = .ok (.iconst 0, 1) := by decide +kernel
theorem dX7_ending_74 : decode cX7_ending 74 = .ok (.istore 9, 2) := by decide +kernel
theorem dX7_ending_76 : decode cX7_ending 76 = .ok (.iload 9, 2) := by decide +kernel
theorem dX7_ending_78 : decode cX7_ending 78 = .ok (.iload 6, 2) := by decide +kernel
theorem dX7_ending_80 : decode cX7_ending 80 = .ok (.if_icmp .ge 35, 3) := by decide +kernel
theorem dX7_ending_83 : decode cX7_ending 83 = .ok (.iload 8, 2) := by decide +kernel
theorem dX7_ending_85 : decode cX7_ending 85 = .ok (.aload_n 0, 1) := by decide +kernel
theorem dX7_ending_86 : decode cX7_ending 86 = .ok (.iload_n 1, 1) := by decide +kernel
theorem dX7_ending_87 : decode cX7_ending 87 = .ok (.iload_n 2, 1) := by decide +kernel
theorem dX7_ending_88 : decode cX7_ending 88 = .ok (.iload_n 3, 1) := by decide +kernel
theorem dX7_ending_89 : decode cX7_ending 89 = .ok (.iload 6, 2) := by decide +kernel
theorem dX7_ending_91 : decode cX7_ending 91 = .ok (.iload 9, 2) := by decide +kernel
theorem dX7_ending_93 : decode cX7_ending 93 = .ok (.iload 7, 2) := by decide +kernel
theorem dX7_ending_95 : decode cX7_ending 95 = .ok (.invokevirtual 154, 3) := by decide +kernel
theorem dX7_ending_98 : decode cX7_ending 98 = .ok (.ifCond .ge 7, 3) := by decide +kernel
theorem dX7_ending_101 : decode cX7_ending 101 = .ok (.iconst 1, 1) := by decide +kernel
theorem dX7_ending_102 : decode cX7_ending 102 = .ok (.goto 4, 3) := by decide +kernel
theorem dX7_ending_105 : decode cX7_ending 105 = .ok (.iconst 0, 1) := by decide +kernel
theorem dX7_ending_106 : decode cX7_ending 106 = .ok (.iadd, 1) := by decide +kernel
theorem dX7_ending_107 : decode cX7_ending 107 = .ok (.istore 8, 2) := by decide +kernel
theorem dX7_ending_109 : decode cX7_ending 109 = .ok (.iinc 9 1, 3) := by decide +kernel
theorem dX7_ending_112 : decode cX7_ending 112 = .ok (.goto (-36), 3) := by decide +kernel
theorem dX7_ending_115 : decode cX7_ending 115 = .ok (.iload 8, 2) := by decide +kernel
theorem dX7_ending_117 : decode cX7_ending 117 = .ok (.iload 4, 2) := by decide +kernel
theorem dX7_ending_119 : decode cX7_ending 119 = .ok (.if_icmp .ne 6, 3) := by decide +kernel
theorem dX7_ending_122 : decode cX7_ending 122 = .ok (.iload 7, 2) := by decide +kernel
theorem dX7_ending_124 : decode cX7_ending 124 = .ok (.ireturn, 1) := by decide +kernel
theorem dX7_ending_125 : decode cX7_ending 125 = .ok (.iinc 7 1, 3) := by decide +kernel
theorem dX7_ending_128 : decode cX7_ending 128 = .ok (.goto (-65), 3) := by decide +kernel
theorem dX7_ending_131 : decode cX7_ending 131 = .ok (.iconst (-1), 1) := by decide +kernel
theorem dX7_ending_132 : decode cX7_ending 132 = .ok (.ireturn, 1) := by decide +kernel
theorem dX7_distinct_0 : decode cX7_distinct 0 = .ok (.aload_n 0, 1) := by decide +kernel
theorem dX7_distinct_1 : decode cX7_distinct 1 = .ok (.aload_n 0, 1) := by decide +kernel
theorem dX7_distinct_2 : decode cX7_distinct 2 = .ok (.iload_n 1, 1) := by decide +kernel
theorem dX7_distinct_3 : decode cX7_distinct 3 = .ok (.iload_n 2, 1) := by decide +kernel
theorem dX7_distinct_4 : decode cX7_distinct 4 = .ok (.invokevirtual 84, 3) := by decide +kernel
theorem dX7_distinct_7 : decode cX7_distinct 7 = .ok (.invokevirtual 73, 3) := by decide +kernel
theorem dX7_distinct_10 : decode cX7_distinct 10 = .ok (.ifCond .eq 5, 3) := by decide +kernel
theorem dX7_distinct_13 : decode cX7_distinct 13 = .ok (.iconst 0, 1) := by decide +kernel
theorem dX7_distinct_14 : decode cX7_distinct 14 = .ok (.ireturn, 1) := by decide +kernel
theorem dX7_distinct_15 : decode cX7_distinct 15 = .ok (.aload_n 0, 1) := by decide +kernel
theorem dX7_distinct_16 : decode cX7_distinct 16 = .ok (.iload_n 1, 1) := by decide +kernel
theorem dX7_distinct_17 : decode cX7_distinct 17 = .ok (.iload_n 2, 1) := by decide +kernel
theorem dX7_distinct_18 : decode cX7_distinct 18 = .ok (.invokevirtual 69, 3) := by decide +kernel
theorem dX7_distinct_21 : decode cX7_distinct 21 = .ok (.istore_n 3, 1) := by decide +kernel
theorem dX7_distinct_22 : decode cX7_distinct 22 = .ok (.iconst 0, 1) := by decide +kernel
theorem dX7_distinct_23 : decode cX7_distinct 23 = .ok (.istore 4, 2) := by decide +kernel
theorem dX7_distinct_25 : decode cX7_distinct 25 = .ok (.iconst 0, 1) := by decide +kernel
theorem dX7_distinct_26 : decode cX7_distinct 26 = .ok (.istore 5, 2) := by decide +kernel
theorem dX7_distinct_28 : decode cX7_distinct 28 = .ok (.iload 5, 2) := by decide +kernel
theorem dX7_distinct_30 : decode cX7_distinct 30 = .ok (.iload_n 3, 1) := by decide +kernel
theorem dX7_distinct_31 : decode cX7_distinct 31 = .ok (.if_icmp .ge 77, 3) := by decide +kernel
theorem dX7_distinct_34 : decode cX7_distinct 34 = .ok (.iconst 0, 1) := by decide +kernel
theorem dX7_distinct_35 : decode cX7_distinct 35 = .ok (.istore 6, 2) := by decide +kernel
theorem dX7_distinct_37 : decode cX7_distinct 37 = .ok (.iconst 0, 1) := by decide +kernel
theorem dX7_distinct_38 : decode cX7_distinct 38 = .ok (.istore 7, 2) := by decide +kernel
theorem dX7_distinct_40 : decode cX7_distinct 40 = .ok (.iload 7, 2) := by decide +kernel
theorem dX7_distinct_42 : decode cX7_distinct 42 = .ok (.iload 5, 2) := by decide +kernel
theorem dX7_distinct_44 : decode cX7_distinct 44 = .ok (.if_icmp .ge 46, 3) := by decide +kernel
theorem dX7_distinct_47 : decode cX7_distinct 47 = .ok (.aload_n 0, 1) := by decide +kernel
theorem dX7_distinct_48 : decode cX7_distinct 48 = .ok (.iload_n 1, 1) := by decide +kernel
theorem dX7_distinct_49 : decode cX7_distinct 49 = .ok (.iload_n 2, 1) := by decide +kernel
theorem dX7_distinct_50 : decode cX7_distinct 50 = .ok (.iload 7, 2) := by decide +kernel
theorem dX7_distinct_52 : decode cX7_distinct 52 = .ok (.iload_n 3, 1) := by decide +kernel
theorem dX7_distinct_53 : decode cX7_distinct 53 = .ok (.iload 7, 2) := by decide +kernel
theorem dX7_distinct_55 : decode cX7_distinct 55 = .ok (.isub, 1) := by decide +kernel
theorem dX7_distinct_56 : decode cX7_distinct 56 = .ok (.iload_n 2, 1) := by decide +kernel
theorem dX7_distinct_57 : decode cX7_distinct 57 = .ok (.iload 5, 2) := by decide +kernel
theorem dX7_distinct_59 : decode cX7_distinct 59 = .ok (.iload_n 3, 1) := by decide +kernel
theorem dX7_distinct_60 : decode cX7_distinct 60 = .ok (.iload 5, 2) := by decide +kernel
theorem dX7_distinct_62 : decode cX7_distinct 62 = .ok (.isub, 1) := by decide +kernel
theorem dX7_distinct_63 : decode cX7_distinct 63 = .ok (.invokevirtual 114, 3) := by decide +kernel
theorem dX7_distinct_66 : decode cX7_distinct 66 = .ok (.istore 8, 2) := by decide +kernel
theorem dX7_distinct_68 : decode cX7_distinct 68 = .ok (.iload 8, 2) := by decide +kernel
theorem dX7_distinct_70 : decode cX7_distinct 70 = .ok (.iload 6, 2) := by decide +kernel
theorem dX7_distinct_72 : decode cX7_distinct 72 = .ok (.if_icmp .le 8, 3) := by decide +kernel
theorem dX7_distinct_75 : decode cX7_distinct 75 = .ok (.iload 8, 2) := by decide +kernel
theorem dX7_distinct_77 : decode cX7_distinct 77 = .ok (.goto 5, 3) := by decide +kernel
theorem dX7_distinct_80 : decode cX7_distinct 80 = .ok (.iload 6, 2) := by decide +kernel
theorem dX7_distinct_82 : decode cX7_distinct 82 = .ok (.istore 6, 2) := by decide +kernel
theorem dX7_distinct_84 : decode cX7_distinct 84 = .ok (.iinc 7 1, 3) := by decide +kernel
theorem dX7_distinct_87 : decode cX7_distinct 87 = .ok (.goto (-47), 3) := by decide +kernel
theorem dX7_distinct_90 : decode cX7_distinct 90 = .ok (.iload 4, 2) := by decide +kernel
theorem dX7_distinct_92 : decode cX7_distinct 92 = .ok (.iload_n 3, 1) := by decide +kernel
theorem dX7_distinct_93 : decode cX7_distinct 93 = .ok (.iload 5, 2) := by decide +kernel
theorem dX7_distinct_95 : decode cX7_distinct 95 = .ok (.isub, 1) := by decide +kernel
theorem dX7_distinct_96 : decode cX7_distinct 96 = .ok (.iload 6, 2) := by decide +kernel
theorem dX7_distinct_98 : decode cX7_distinct 98 = .ok (.isub, 1) := by decide +kernel
theorem dX7_distinct_99 : decode cX7_distinct 99 = .ok (.iadd, 1) := by decide +kernel
theorem dX7_distinct_100 : decode cX7_distinct 100 = .ok (.istore 4, 2) := by decide +kernel
theorem dX7_distinct_102 : decode cX7_distinct 102 = .ok (.iinc 5 1, 3) := by decide +kernel
theorem dX7_distinct_105 : decode cX7_distinct 105 = .ok (.goto (-77), 3) := by decide +kernel
theorem dX7_distinct_108 : decode cX7_distinct 108 = .ok (.iload 4, 2) := by decide +kernel
theorem dX7_distinct_110 : decode cX7_distinct 110 = .ok (.ireturn, 1) := by decide +kernel
theorem dX7_longest_0 : decode cX7_longest 0 = .ok (.aload_n 0, 1) := by decide +kernel
theorem dX7_longest_1 : decode cX7_longest 1 = .ok (.aload_n 0, 1) := by decide +kernel
theorem dX7_longest_2 : decode cX7_longest 2 = .ok (.iload_n 1, 1) := by decide +kernel
theorem dX7_longest_3 : decode cX7_longest 3 = .ok (.iload_n 2, 1) := by decide +kernel
theorem dX7_longest_4 : decode cX7_longest 4 = .ok (.invokevirtual 84, 3) := by decide +kernel
theorem dX7_longest_7 : decode cX7_longest 7 = .ok (.invokevirtual 73, 3) := by decide +kernel
theorem dX7_longest_10 : decode cX7_longest 10 = .ok (.ifCond .eq 5, 3) := by decide +kernel
theorem dX7_longest_13 : decode cX7_longest 13 = .ok (.iconst 0, 1) := by decide +kernel
theorem dX7_longest_14 : decode cX7_longest 14 = .ok (.ireturn, 1) := by decide +kernel
theorem dX7_longest_15 : decode cX7_longest 15 = .ok (.aload_n 0, 1) := by decide +kernel
theorem dX7_longest_16 : decode cX7_longest 16 = .ok (.iload_n 1, 1) := by decide +kernel
theorem dX7_longest_17 : decode cX7_longest 17 = .ok (.iload_n 2, 1) := by decide +kernel
theorem dX7_longest_18 : decode cX7_longest 18 = .ok (.invokevirtual 69, 3) := by decide +kernel
theorem dX7_longest_21 : decode cX7_longest 21 = .ok (.istore_n 3, 1) := by decide +kernel
theorem dX7_longest_22 : decode cX7_longest 22 = .ok (.iconst 0, 1) := by decide +kernel
theorem dX7_longest_23 : decode cX7_longest 23 = .ok (.istore 4, 2) := by decide +kernel
theorem dX7_longest_25 : decode cX7_longest 25 = .ok (.iconst 0, 1) := by decide +kernel
theorem dX7_longest_26 : decode cX7_longest 26 = .ok (.istore 5, 2) := by decide +kernel
theorem dX7_longest_28 : decode cX7_longest 28 = .ok (.iload 5, 2) := by decide +kernel
theorem dX7_longest_30 : decode cX7_longest 30 = .ok (.iload_n 3, 1) := by decide +kernel
theorem dX7_longest_31 : decode cX7_longest 31 = .ok (.if_icmp .ge 62, 3) := by decide +kernel
theorem dX7_longest_34 : decode cX7_longest 34 = .ok (.iconst 0, 1) := by decide +kernel
theorem dX7_longest_35 : decode cX7_longest 35 = .ok (.istore 6, 2) := by decide +kernel
theorem dX7_longest_37 : decode cX7_longest 37 = .ok (.iload 6, 2) := by decide +kernel
theorem dX7_longest_39 : decode cX7_longest 39 = .ok (.iload 5, 2) := by decide +kernel
theorem dX7_longest_41 : decode cX7_longest 41 = .ok (.if_icmp .ge 46, 3) := by decide +kernel
theorem dX7_longest_44 : decode cX7_longest 44 = .ok (.aload_n 0, 1) := by decide +kernel
theorem dX7_longest_45 : decode cX7_longest 45 = .ok (.iload_n 1, 1) := by decide +kernel
theorem dX7_longest_46 : decode cX7_longest 46 = .ok (.iload_n 2, 1) := by decide +kernel
theorem dX7_longest_47 : decode cX7_longest 47 = .ok (.iload 6, 2) := by decide +kernel
theorem dX7_longest_49 : decode cX7_longest 49 = .ok (.iload_n 3, 1) := by decide +kernel
theorem dX7_longest_50 : decode cX7_longest 50 = .ok (.iload 6, 2) := by decide +kernel
theorem dX7_longest_52 : decode cX7_longest 52 = .ok (.isub, 1) := by decide +kernel
theorem dX7_longest_53 : decode cX7_longest 53 = .ok (.iload_n 2, 1) := by decide +kernel
theorem dX7_longest_54 : decode cX7_longest 54 = .ok (.iload 5, 2) := by decide +kernel
theorem dX7_longest_56 : decode cX7_longest 56 = .ok (.iload_n 3, 1) := by decide +kernel
theorem dX7_longest_57 : decode cX7_longest 57 = .ok (.iload 5, 2) := by decide +kernel
theorem dX7_longest_59 : decode cX7_longest 59 = .ok (.isub, 1) := by decide +kernel
theorem dX7_longest_60 : decode cX7_longest 60 = .ok (.invokevirtual 114, 3) := by decide +kernel
theorem dX7_longest_63 : decode cX7_longest 63 = .ok (.istore 7, 2) := by decide +kernel
theorem dX7_longest_65 : decode cX7_longest 65 = .ok (.iload 7, 2) := by decide +kernel
theorem dX7_longest_67 : decode cX7_longest 67 = .ok (.iload 4, 2) := by decide +kernel
theorem dX7_longest_69 : decode cX7_longest 69 = .ok (.if_icmp .le 8, 3) := by decide +kernel
theorem dX7_longest_72 : decode cX7_longest 72 = .ok (.iload 7, 2) := by decide +kernel
theorem dX7_longest_74 : decode cX7_longest 74 = .ok (.goto 5, 3) := by decide +kernel
theorem dX7_longest_77 : decode cX7_longest 77 = .ok (.iload 4, 2) := by decide +kernel
theorem dX7_longest_79 : decode cX7_longest 79 = .ok (.istore 4, 2) := by decide +kernel
theorem dX7_longest_81 : decode cX7_longest 81 = .ok (.iinc 6 1, 3) := by decide +kernel
theorem dX7_longest_84 : decode cX7_longest 84 = .ok (.goto (-47), 3) := by decide +kernel
theorem dX7_longest_87 : decode cX7_longest 87 = .ok (.iinc 5 1, 3) := by decide +kernel
theorem dX7_longest_90 : decode cX7_longest 90 = .ok (.goto (-62), 3) := by decide +kernel
theorem dX7_longest_93 : decode cX7_longest 93 = .ok (.iload 4, 2) := by decide +kernel
theorem dX7_longest_95 : decode cX7_longest 95 = .ok (.ireturn, 1) := by decide +kernel
theorem dX7_occurs_0 : decode cX7_occurs 0 = .ok (.aload_n 0, 1) := by decide +kernel
theorem dX7_occurs_1 : decode cX7_occurs 1 = .ok (.iload_n 1, 1) := by decide +kernel
theorem dX7_occurs_2 : decode cX7_occurs 2 = .ok (.invokestatic 57, 3) := by decide +kernel
theorem dX7_occurs_5 : decode cX7_occurs 5 = .ok (.ifCond .ne 7, 3) := by decide +kernel
theorem dX7_occurs_8 : decode cX7_occurs 8 = .ok (.iconst 1, 1) := by decide +kernel
theorem dX7_occurs_9 : decode cX7_occurs 9 = .ok (.goto 35, 3) := by decide +kernel
theorem dX7_occurs_12 : decode cX7_occurs 12 = .ok (.iload_n 2, 1) := by decide +kernel
theorem dX7_occurs_13 : decode cX7_occurs 13 = .ok (.invokestatic 61, 3) := by decide +kernel
theorem dX7_occurs_16 : decode cX7_occurs 16 = .ok (.ifCond .eq 10, 3) := by decide +kernel
theorem dX7_occurs_19 : decode cX7_occurs 19 = .ok (.iload_n 3, 1) := by decide +kernel
theorem dX7_occurs_20 : decode cX7_occurs 20 = .ok (.invokestatic 105, 3) := by decide +kernel
theorem dX7_occurs_23 : decode cX7_occurs 23 = .ok (.ifCond .ne 7, 3) := by decide +kernel
theorem dX7_occurs_26 : decode cX7_occurs 26 = .ok (.iconst 2, 1) := by decide +kernel
theorem dX7_occurs_27 : decode cX7_occurs 27 = .ok (.goto 17, 3) := by decide +kernel
theorem dX7_occurs_30 : decode cX7_occurs 30 = .ok (.aload_n 0, 1) := by decide +kernel
theorem dX7_occurs_31 : decode cX7_occurs 31 = .ok (.iload_n 1, 1) := by decide +kernel
theorem dX7_occurs_32 : decode cX7_occurs 32 = .ok (.iload_n 3, 1) := by decide +kernel
theorem dX7_occurs_33 : decode cX7_occurs 33 = .ok (.invokevirtual 110, 3) := by decide +kernel
theorem dX7_occurs_36 : decode cX7_occurs 36 = .ok (.ifCond .eq 7, 3) := by decide +kernel
theorem dX7_occurs_39 : decode cX7_occurs 39 = .ok (.iconst 0, 1) := by decide +kernel
theorem dX7_occurs_40 : decode cX7_occurs 40 = .ok (.goto 4, 3) := by decide +kernel
theorem dX7_occurs_43 : decode cX7_occurs 43 = .ok (.iconst 3, 1) := by decide +kernel
theorem dX7_occurs_44 : decode cX7_occurs 44 = .ok (.invokevirtual 73, 3) := by decide +kernel
theorem dX7_occurs_47 : decode cX7_occurs 47 = .ok (.ifCond .eq 5, 3) := by decide +kernel
theorem dX7_occurs_50 : decode cX7_occurs 50 = .ok (.iconst 0, 1) := by decide +kernel
theorem dX7_occurs_51 : decode cX7_occurs 51 = .ok (.ireturn, 1) := by decide +kernel
theorem dX7_occurs_52 : decode cX7_occurs 52 = .ok (.aload_n 0, 1) := by decide +kernel
theorem dX7_occurs_53 : decode cX7_occurs 53 = .ok (.iload_n 3, 1) := by decide +kernel
theorem dX7_occurs_54 : decode cX7_occurs 54 = .ok (.invokevirtual 133, 3) := by decide +kernel
theorem dX7_occurs_57 : decode cX7_occurs 57 = .ok (.istore 4, 2) := by decide +kernel
theorem dX7_occurs_59 : decode cX7_occurs 59 = .ok (.iconst 0, 1) := by decide +kernel
theorem dX7_occurs_60 : decode cX7_occurs 60 = .ok (.istore 5, 2) := by decide +kernel
theorem dX7_occurs_62 : decode cX7_occurs 62 = .ok (.iconst 0, 1) := by decide +kernel
theorem dX7_occurs_63 : decode cX7_occurs 63 = .ok (.istore 6, 2) := by decide +kernel
theorem dX7_occurs_65 : decode cX7_occurs 65 = .ok (.iload 6, 2) := by decide +kernel
theorem dX7_occurs_67 : decode cX7_occurs 67 = .ok (.iload 4, 2) := by decide +kernel
theorem dX7_occurs_69 : decode cX7_occurs 69 = .ok (.iadd, 1) := by decide +kernel
theorem dX7_occurs_70 : decode cX7_occurs 70 = .ok (.aload_n 0, 1) := by decide +kernel
theorem dX7_occurs_71 : decode cX7_occurs 71 = .ok (.iload_n 1, 1) := by decide +kernel
theorem dX7_occurs_72 : decode cX7_occurs 72 = .ok (.iload_n 2, 1) := by decide +kernel
theorem dX7_occurs_73 : decode cX7_occurs 73 = .ok (.invokevirtual 69, 3) := by decide +kernel
theorem dX7_occurs_76 : decode cX7_occurs 76 = .ok (.if_icmp .gt 48, 3) := by decide +kernel
theorem dX7_occurs_79 : decode cX7_occurs 79 = .ok (.iload 5, 2) := by decide +kernel
theorem dX7_occurs_81 : decode cX7_occurs 81 = .ok (.aload_n 0, 1) := by decide +kernel
theorem dX7_occurs_82 : decode cX7_occurs 82 = .ok (.iload_n 1, 1) := by decide +kernel
theorem dX7_occurs_83 : decode cX7_occurs 83 = .ok (.iload_n 2, 1) := by decide +kernel
theorem dX7_occurs_84 : decode cX7_occurs 84 = .ok (.iload 6, 2) := by decide +kernel
theorem dX7_occurs_86 : decode cX7_occurs 86 = .ok (.iload 4, 2) := by decide +kernel
theorem dX7_occurs_88 : decode cX7_occurs 88 = .ok (.aload_n 0, 1) := by decide +kernel
theorem dX7_occurs_89 : decode cX7_occurs 89 = .ok (.getfield 17, 3) := by decide +kernel
theorem dX7_occurs_92 : decode cX7_occurs 92 = .ok (.iload_n 3, 1) := by decide +kernel
theorem dX7_occurs_93 : decode cX7_occurs 93 = .ok (.iaload, 1) := by decide +kernel
theorem dX7_occurs_94 : decode cX7_occurs 94 = .ok (.aload_n 0, 1) := by decide +kernel
theorem dX7_occurs_95 : decode cX7_occurs 95 = .ok (.getfield 20, 3) := by decide +kernel
theorem dX7_occurs_98 : decode cX7_occurs 98 = .ok (.iload_n 3, 1) := by decide +kernel
theorem dX7_occurs_99 : decode cX7_occurs 99 = .ok (.iaload, 1) := by decide +kernel
theorem dX7_occurs_100 : decode cX7_occurs 100 = .ok (.iload 4, 2) := by decide +kernel
theorem dX7_occurs_102 : decode cX7_occurs 102 = .ok (.invokevirtual 114, 3) := by decide +kernel
theorem dX7_occurs_105 : decode cX7_occurs 105 = .ok (.iload 4, 2) := by decide +kernel
theorem dX7_occurs_107 : decode cX7_occurs 107 = .ok (.if_icmp .ne 7, 3) := by decide +kernel
theorem dX7_occurs_110 : decode cX7_occurs 110 = .ok (.iconst 1, 1) := by decide +kernel
theorem dX7_occurs_111 : decode cX7_occurs 111 = .ok (.goto 4, 3) := by decide +kernel
theorem dX7_occurs_114 : decode cX7_occurs 114 = .ok (.iconst 0, 1) := by decide +kernel
theorem dX7_occurs_115 : decode cX7_occurs 115 = .ok (.iadd, 1) := by decide +kernel
theorem dX7_occurs_116 : decode cX7_occurs 116 = .ok (.istore 5, 2) := by decide +kernel
theorem dX7_occurs_118 : decode cX7_occurs 118 = .ok (.iinc 6 1, 3) := by decide +kernel
theorem dX7_occurs_121 : decode cX7_occurs 121 = .ok (.goto (-56), 3) := by decide +kernel
theorem dX7_occurs_124 : decode cX7_occurs 124 = .ok (.iload 5, 2) := by decide +kernel
theorem dX7_occurs_126 : decode cX7_occurs 126 = .ok (.ireturn, 1) := by decide +kernel
theorem dX7_is_0 : decode cX7_is 0 = .ok (.aload_n 0, 1) := by decide +kernel
theorem dX7_is_1 : decode cX7_is 1 = .ok (.iload_n 1, 1) := by decide +kernel
theorem dX7_is_2 : decode cX7_is 2 = .ok (.iload_n 2, 1) := by decide +kernel
theorem dX7_is_3 : decode cX7_is 3 = .ok (.invokevirtual 69, 3) := by decide +kernel
theorem dX7_is_6 : decode cX7_is 6 = .ok (.istore 4, 2) := by decide +kernel
theorem dX7_is_8 : decode cX7_is 8 = .ok (.iload_n 3, 1) := by decide +kernel
theorem dX7_is_9 : decode cX7_is 9 = .ok (.istore 5, 2) := by decide +kernel
theorem dX7_is_11 : decode cX7_is 11 = .ok (.iload 5, 2) := by decide +kernel
theorem dX7_is_13 : decode cX7_is 13 = .ok (.iload 4, 2) := by decide +kernel
theorem dX7_is_15 : decode cX7_is 15 = .ok (.if_icmp .ge 43, 3) := by decide +kernel
theorem dX7_is_18 : decode cX7_is 18 = .ok (.aload_n 0, 1) := by decide +kernel
theorem dX7_is_19 : decode cX7_is 19 = .ok (.getfield 7, 3) := by decide +kernel
theorem dX7_is_22 : decode cX7_is 22 = .ok (.aload_n 0, 1) := by decide +kernel
theorem dX7_is_23 : decode cX7_is 23 = .ok (.iload_n 1, 1) := by decide +kernel
theorem dX7_is_24 : decode cX7_is 24 = .ok (.iload_n 2, 1) := by decide +kernel
theorem dX7_is_25 : decode cX7_is 25 = .ok (.iload 5, 2) := by decide +kernel
theorem dX7_is_27 : decode cX7_is 27 = .ok (.invokevirtual 76, 3) := by decide +kernel
theorem dX7_is_30 : decode cX7_is 30 = .ok (.laload, 1) := by decide +kernel
theorem dX7_is_31 : decode cX7_is 31 = .ok (.aload_n 0, 1) := by decide +kernel
theorem dX7_is_32 : decode cX7_is 32 = .ok (.getfield 7, 3) := by decide +kernel
theorem dX7_is_35 : decode cX7_is 35 = .ok (.aload_n 0, 1) := by decide +kernel
theorem dX7_is_36 : decode cX7_is 36 = .ok (.iload_n 1, 1) := by decide +kernel
theorem dX7_is_37 : decode cX7_is 37 = .ok (.iload_n 2, 1) := by decide +kernel
theorem dX7_is_38 : decode cX7_is 38 = .ok (.iload 5, 2) := by decide +kernel
theorem dX7_is_40 : decode cX7_is 40 = .ok (.iload_n 3, 1) := by decide +kernel
theorem dX7_is_41 : decode cX7_is 41 = .ok (.isub, 1) := by decide +kernel
theorem dX7_is_42 : decode cX7_is 42 = .ok (.invokevirtual 76, 3) := by decide +kernel
theorem dX7_is_45 : decode cX7_is 45 = .ok (.laload, 1) := by decide +kernel
theorem dX7_is_46 : decode cX7_is 46 = .ok (.lcmp, 1) := by decide +kernel
theorem dX7_is_47 : decode cX7_is 47 = .ok (.ifCond .eq 5, 3) := by decide +kernel
theorem dX7_is_50 : decode cX7_is 50 = .ok (.iconst 0, 1) := by decide +kernel
theorem dX7_is_51 : decode cX7_is 51 = .ok (.ireturn, 1) := by decide +kernel
theorem dX7_is_52 : decode cX7_is 52 = .ok (.iinc 5 1, 3) := by decide +kernel
theorem dX7_is_55 : decode cX7_is 55 = .ok (.goto (-44), 3) := by decide +kernel
theorem dX7_is_58 : decode cX7_is 58 = .ok (.iconst 1, 1) := by decide +kernel
theorem dX7_is_59 : decode cX7_is 59 = .ok (.ireturn, 1) := by decide +kernel
theorem dX7_isPeriod_0 : decode cX7_isPeriod 0 = .ok (.aload_n 0, 1) := by decide +kernel
theorem dX7_isPeriod_1 : decode cX7_isPeriod 1 = .ok (.iload_n 1, 1) := by decide +kernel
theorem dX7_isPeriod_2 : decode cX7_isPeriod 2 = .ok (.invokestatic 57, 3) := by decide +kernel
theorem dX7_isPeriod_5 : decode cX7_isPeriod 5 = .ok (.ifCond .ne 7, 3) := by decide +kernel
theorem dX7_isPeriod_8 : decode cX7_isPeriod 8 = .ok (.iconst 1, 1) := by decide +kernel
theorem dX7_isPeriod_9 : decode cX7_isPeriod 9 = .ok (.goto 31, 3) := by decide +kernel
theorem dX7_isPeriod_12 : decode cX7_isPeriod 12 = .ok (.iload_n 2, 1) := by decide +kernel
theorem dX7_isPeriod_13 : decode cX7_isPeriod 13 = .ok (.invokestatic 61, 3) := by decide +kernel
theorem dX7_isPeriod_16 : decode cX7_isPeriod 16 = .ok (.ifCond .eq 23, 3) := by decide +kernel
theorem dX7_isPeriod_19 : decode cX7_isPeriod 19 = .ok (.iload_n 3, 1) := by decide +kernel
theorem dX7_isPeriod_20 : decode cX7_isPeriod 20 = .ok (.i2l, 1) := by decide +kernel
theorem dX7_isPeriod_21 : decode cX7_isPeriod 21 = .ok (.lconst 1, 1) := by decide +kernel
theorem dX7_isPeriod_22 : decode cX7_isPeriod 22 = .ok (.aload_n 0, 1) := by decide +kernel
theorem dX7_isPeriod_23 : decode cX7_isPeriod 23 = .ok (.iload_n 1, 1) := by decide +kernel
theorem dX7_isPeriod_24 : decode cX7_isPeriod 24 = .ok (.iload_n 2, 1) := by decide +kernel
theorem dX7_isPeriod_25 : decode cX7_isPeriod 25 = .ok (.invokevirtual 69, 3) := by decide +kernel
theorem dX7_isPeriod_28 : decode cX7_isPeriod 28 = .ok (.i2l, 1) := by decide +kernel
theorem dX7_isPeriod_29 : decode cX7_isPeriod 29 = .ok (.invokestatic 39, 3) := by decide +kernel
theorem dX7_isPeriod_32 : decode cX7_isPeriod 32 = .ok (.ifCond .eq 7, 3) := by decide +kernel
theorem dX7_isPeriod_35 : decode cX7_isPeriod 35 = .ok (.iconst 0, 1) := by decide +kernel
theorem dX7_isPeriod_36 : decode cX7_isPeriod 36 = .ok (.goto 4, 3) := by decide +kernel
theorem dX7_isPeriod_39 : decode cX7_isPeriod 39 = .ok (.iconst 2, 1) := by decide +kernel
theorem dX7_isPeriod_40 : decode cX7_isPeriod 40 = .ok (.invokevirtual 73, 3) := by decide +kernel
theorem dX7_isPeriod_43 : decode cX7_isPeriod 43 = .ok (.ifCond .ne 17, 3) := by decide +kernel
theorem dX7_isPeriod_46 : decode cX7_isPeriod 46 = .ok (.aload_n 0, 1) := by decide +kernel
theorem dX7_isPeriod_47 : decode cX7_isPeriod 47 = .ok (.iload_n 1, 1) := by decide +kernel
theorem dX7_isPeriod_48 : decode cX7_isPeriod 48 = .ok (.iload_n 2, 1) := by decide +kernel
theorem dX7_isPeriod_49 : decode cX7_isPeriod 49 = .ok (.iload_n 3, 1) := by decide +kernel
theorem dX7_isPeriod_50 : decode cX7_isPeriod 50 = .ok (.invokevirtual 158, 3) := by decide +kernel
theorem dX7_isPeriod_53 : decode cX7_isPeriod 53 = .ok (.ifCond .eq 7, 3) := by decide +kernel
theorem dX7_isPeriod_56 : decode cX7_isPeriod 56 = .ok (.iconst 1, 1) := by decide +kernel
theorem dX7_isPeriod_57 : decode cX7_isPeriod 57 = .ok (.goto 4, 3) := by decide +kernel
theorem dX7_isPeriod_60 : decode cX7_isPeriod 60 = .ok (.iconst 0, 1) := by decide +kernel
theorem dX7_isPeriod_61 : decode cX7_isPeriod 61 = .ok (.ireturn, 1) := by decide +kernel
theorem dX7_period_0 : decode cX7_period 0 = .ok (.aload_n 0, 1) := by decide +kernel
theorem dX7_period_1 : decode cX7_period 1 = .ok (.aload_n 0, 1) := by decide +kernel
theorem dX7_period_2 : decode cX7_period 2 = .ok (.iload_n 1, 1) := by decide +kernel
theorem dX7_period_3 : decode cX7_period 3 = .ok (.iload_n 2, 1) := by decide +kernel
theorem dX7_period_4 : decode cX7_period 4 = .ok (.invokevirtual 84, 3) := by decide +kernel
theorem dX7_period_7 : decode cX7_period 7 = .ok (.invokevirtual 73, 3) := by decide +kernel
theorem dX7_period_10 : decode cX7_period 10 = .ok (.ifCond .ne 12, 3) := by decide +kernel
theorem dX7_period_13 : decode cX7_period 13 = .ok (.aload_n 0, 1) := by decide +kernel
theorem dX7_period_14 : decode cX7_period 14 = .ok (.iload_n 1, 1) := by decide +kernel
theorem dX7_period_15 : decode cX7_period 15 = .ok (.iload_n 2, 1) := by decide +kernel
theorem dX7_period_16 : decode cX7_period 16 = .ok (.invokevirtual 69, 3) := by decide +kernel
theorem dX7_period_19 : decode cX7_period 19 = .ok (.ifCond .ne 5, 3) := by decide +kernel
theorem dX7_period_22 : decode cX7_period 22 = .ok (.iconst 0, 1) := by decide +kernel
theorem dX7_period_23 : decode cX7_period 23 = .ok (.ireturn, 1) := by decide +kernel
theorem dX7_period_24 : decode cX7_period 24 = .ok (.iconst 1, 1) := by decide +kernel
theorem dX7_period_25 : decode cX7_period 25 = .ok (.istore_n 3, 1) := by decide +kernel
theorem dX7_period_26 : decode cX7_period 26 = .ok (.aload_n 0, 1) := by decide +kernel
theorem dX7_period_27 : decode cX7_period 27 = .ok (.iload_n 1, 1) := by decide +kernel
theorem dX7_period_28 : decode cX7_period 28 = .ok (.iload_n 2, 1) := by decide +kernel
theorem dX7_period_29 : decode cX7_period 29 = .ok (.iload_n 3, 1) := by decide +kernel
theorem dX7_period_30 : decode cX7_period 30 = .ok (.invokevirtual 158, 3) := by decide +kernel
theorem dX7_period_33 : decode cX7_period 33 = .ok (.ifCond .ne 9, 3) := by decide +kernel
theorem dX7_period_36 : decode cX7_period 36 = .ok (.iinc 3 1, 3) := by decide +kernel
theorem dX7_period_39 : decode cX7_period 39 = .ok (.goto (-13), 3) := by decide +kernel
theorem dX7_period_42 : decode cX7_period 42 = .ok (.iload_n 3, 1) := by decide +kernel
theorem dX7_period_43 : decode cX7_period 43 = .ok (.ireturn, 1) := by decide +kernel
theorem dX7_root_0 : decode cX7_root 0 = .ok (.aload_n 0, 1) := by decide +kernel
theorem dX7_root_1 : decode cX7_root 1 = .ok (.aload_n 0, 1) := by decide +kernel
theorem dX7_root_2 : decode cX7_root 2 = .ok (.iload_n 1, 1) := by decide +kernel
theorem dX7_root_3 : decode cX7_root 3 = .ok (.iload_n 2, 1) := by decide +kernel
theorem dX7_root_4 : decode cX7_root 4 = .ok (.invokevirtual 84, 3) := by decide +kernel
theorem dX7_root_7 : decode cX7_root 7 = .ok (.invokevirtual 73, 3) := by decide +kernel
theorem dX7_root_10 : decode cX7_root 10 = .ok (.ifCond .ne 12, 3) := by decide +kernel
theorem dX7_root_13 : decode cX7_root 13 = .ok (.aload_n 0, 1) := by decide +kernel
theorem dX7_root_14 : decode cX7_root 14 = .ok (.iload_n 1, 1) := by decide +kernel
theorem dX7_root_15 : decode cX7_root 15 = .ok (.iload_n 2, 1) := by decide +kernel
theorem dX7_root_16 : decode cX7_root 16 = .ok (.invokevirtual 69, 3) := by decide +kernel
theorem dX7_root_19 : decode cX7_root 19 = .ok (.ifCond .ne 5, 3) := by decide +kernel
theorem dX7_root_22 : decode cX7_root 22 = .ok (.iconst 0, 1) := by decide +kernel
theorem dX7_root_23 : decode cX7_root 23 = .ok (.ireturn, 1) := by decide +kernel
theorem dX7_root_24 : decode cX7_root 24 = .ok (.iconst 1, 1) := by decide +kernel
theorem dX7_root_25 : decode cX7_root 25 = .ok (.istore_n 3, 1) := by decide +kernel
theorem dX7_root_26 : decode cX7_root 26 = .ok (.aload_n 0, 1) := by decide +kernel
theorem dX7_root_27 : decode cX7_root 27 = .ok (.iload_n 1, 1) := by decide +kernel
theorem dX7_root_28 : decode cX7_root 28 = .ok (.iload_n 2, 1) := by decide +kernel
theorem dX7_root_29 : decode cX7_root 29 = .ok (.invokevirtual 69, 3) := by decide +kernel
theorem dX7_root_32 : decode cX7_root 32 = .ok (.iload_n 3, 1) := by decide +kernel
theorem dX7_root_33 : decode cX7_root 33 = .ok (.irem, 1) := by decide +kernel
theorem dX7_root_34 : decode cX7_root 34 = .ok (.ifCond .ne 13, 3) := by decide +kernel
theorem dX7_root_37 : decode cX7_root 37 = .ok (.aload_n 0, 1) := by decide +kernel
theorem dX7_root_38 : decode cX7_root 38 = .ok (.iload_n 1, 1) := by decide +kernel
theorem dX7_root_39 : decode cX7_root 39 = .ok (.iload_n 2, 1) := by decide +kernel
theorem dX7_root_40 : decode cX7_root 40 = .ok (.iload_n 3, 1) := by decide +kernel
theorem dX7_root_41 : decode cX7_root 41 = .ok (.invokevirtual 158, 3) := by decide +kernel
theorem dX7_root_44 : decode cX7_root 44 = .ok (.ifCond .ne 9, 3) := by decide +kernel
theorem dX7_root_47 : decode cX7_root 47 = .ok (.iinc 3 1, 3) := by decide +kernel
theorem dX7_root_50 : decode cX7_root 50 = .ok (.goto (-24), 3) := by decide +kernel
theorem dX7_root_53 : decode cX7_root 53 = .ok (.iload_n 3, 1) := by decide +kernel
theorem dX7_root_54 : decode cX7_root 54 = .ok (.ireturn, 1) := by decide +kernel
theorem dX7_isTurnedLess_0 : decode cX7_isTurnedLess 0 = .ok (.aload_n 0, 1) := by decide +kernel
theorem dX7_isTurnedLess_1 : decode cX7_isTurnedLess 1 = .ok (.iload_n 1, 1) := by decide +kernel
theorem dX7_isTurnedLess_2 : decode cX7_isTurnedLess 2 = .ok (.iload_n 3, 1) := by decide +kernel
theorem dX7_isTurnedLess_3 : decode cX7_isTurnedLess 3 = .ok (.invokevirtual 69, 3) := by decide +kernel
theorem dX7_isTurnedLess_6 : decode cX7_isTurnedLess 6 = .ok (.istore 6, 2) := by decide +kernel
theorem dX7_isTurnedLess_8 : decode cX7_isTurnedLess 8 = .ok (.iconst 0, 1) := by decide +kernel
theorem dX7_isTurnedLess_9 : decode cX7_isTurnedLess 9 = .ok (.istore 7, 2) := by decide +kernel
theorem dX7_isTurnedLess_11 : decode cX7_isTurnedLess 11 = .ok (.iload 7, 2) := by decide +kernel
theorem dX7_isTurnedLess_13 : decode cX7_isTurnedLess 13 = .ok (.iload 6, 2) := by decide +kernel
theorem dX7_isTurnedLess_15 : decode cX7_isTurnedLess 15 = .ok (.if_icmp .ge 68, 3) := by decide +kernel
theorem dX7_isTurnedLess_18 : decode cX7_isTurnedLess 18 = .ok (.aload_n 0, 1) := by decide +kernel
theorem dX7_isTurnedLess_19 : decode cX7_isTurnedLess 19 = .ok (.getfield 7, 3) := by decide +kernel
theorem dX7_isTurnedLess_22 : decode cX7_isTurnedLess 22 = .ok (.aload_n 0, 1) := by decide +kernel
theorem dX7_isTurnedLess_23 : decode cX7_isTurnedLess 23 = .ok (.iload_n 1, 1) := by decide +kernel
theorem dX7_isTurnedLess_24 : decode cX7_isTurnedLess 24 = .ok (.iload_n 3, 1) := by decide +kernel
theorem dX7_isTurnedLess_25 : decode cX7_isTurnedLess 25 = .ok (.iload 4, 2) := by decide +kernel
theorem dX7_isTurnedLess_27 : decode cX7_isTurnedLess 27 = .ok (.iload 7, 2) := by decide +kernel
theorem dX7_isTurnedLess_29 : decode cX7_isTurnedLess 29 = .ok (.iadd, 1) := by decide +kernel
theorem dX7_isTurnedLess_30 : decode cX7_isTurnedLess 30 = .ok (.iload 6, 2) := by decide +kernel
theorem dX7_isTurnedLess_32 : decode cX7_isTurnedLess 32 = .ok (.irem, 1) := by decide +kernel
theorem dX7_isTurnedLess_33 : decode cX7_isTurnedLess 33 = .ok (.invokevirtual 76, 3) := by decide +kernel
theorem dX7_isTurnedLess_36 : decode cX7_isTurnedLess 36 = .ok (.laload, 1) := by decide +kernel
theorem dX7_isTurnedLess_37 : decode cX7_isTurnedLess 37 = .ok (.lstore 8, 2) := by decide +kernel
theorem dX7_isTurnedLess_39 : decode cX7_isTurnedLess 39 = .ok (.aload_n 0, 1) := by decide +kernel
theorem dX7_isTurnedLess_40 : decode cX7_isTurnedLess 40 = .ok (.getfield 7, 3) := by decide +kernel
theorem dX7_isTurnedLess_43 : decode cX7_isTurnedLess 43 = .ok (.aload_n 0, 1) := by decide +kernel
theorem dX7_isTurnedLess_44 : decode cX7_isTurnedLess 44 = .ok (.iload_n 1, 1) := by decide +kernel
theorem dX7_isTurnedLess_45 : decode cX7_isTurnedLess 45 = .ok (.iload_n 3, 1) := by decide +kernel
theorem dX7_isTurnedLess_46 : decode cX7_isTurnedLess 46 = .ok (.iload 5, 2) := by decide +kernel
theorem dX7_isTurnedLess_48 : decode cX7_isTurnedLess 48 = .ok (.iload 7, 2) := by decide +kernel
theorem dX7_isTurnedLess_50 : decode cX7_isTurnedLess 50 = .ok (.iadd, 1) := by decide +kernel
theorem dX7_isTurnedLess_51 : decode cX7_isTurnedLess 51 = .ok (.iload 6, 2) := by decide +kernel
theorem dX7_isTurnedLess_53 : decode cX7_isTurnedLess 53 = .ok (.irem, 1) := by decide +kernel
theorem dX7_isTurnedLess_54 : decode cX7_isTurnedLess 54 = .ok (.invokevirtual 76, 3) := by decide +kernel
theorem dX7_isTurnedLess_57 : decode cX7_isTurnedLess 57 = .ok (.laload, 1) := by decide +kernel
theorem dX7_isTurnedLess_58 : decode cX7_isTurnedLess 58 = .ok (.lstore 10, 2) := by decide +kernel
theorem dX7_isTurnedLess_60 : decode cX7_isTurnedLess 60 = .ok (.lload 8, 2) := by decide +kernel
theorem dX7_isTurnedLess_62 : decode cX7_isTurnedLess 62 = .ok (.lload 10, 2) := by decide +kernel
theorem dX7_isTurnedLess_64 : decode cX7_isTurnedLess 64 = .ok (.lcmp, 1) := by decide +kernel
theorem dX7_isTurnedLess_65 : decode cX7_isTurnedLess 65 = .ok (.ifCond .eq 12, 3) := by decide +kernel
theorem dX7_isTurnedLess_68 : decode cX7_isTurnedLess 68 = .ok (.lload 8, 2) := by decide +kernel
theorem dX7_isTurnedLess_70 : decode cX7_isTurnedLess 70 = .ok (.lload 10, 2) := by decide +kernel
theorem dX7_isTurnedLess_72 : decode cX7_isTurnedLess 72 = .ok (.iload_n 2, 1) := by decide +kernel
theorem dX7_isTurnedLess_73 : decode cX7_isTurnedLess 73 = .ok (.invokestatic 118, 3) := by decide +kernel
theorem dX7_isTurnedLess_76 : decode cX7_isTurnedLess 76 = .ok (.ireturn, 1) := by decide +kernel
theorem dX7_isTurnedLess_77 : decode cX7_isTurnedLess 77 = .ok (.iinc 7 1, 3) := by decide +kernel
theorem dX7_isTurnedLess_80 : decode cX7_isTurnedLess 80 = .ok (.goto (-69), 3) := by decide +kernel
theorem dX7_isTurnedLess_83 : decode cX7_isTurnedLess 83 = .ok (.iconst 0, 1) := by decide +kernel
theorem dX7_isTurnedLess_84 : decode cX7_isTurnedLess 84 = .ok (.ireturn, 1) := by decide +kernel
theorem dX7_rotation_0 : decode cX7_rotation 0 = .ok (.aload_n 0, 1) := by decide +kernel
theorem dX7_rotation_1 : decode cX7_rotation 1 = .ok (.aload_n 0, 1) := by decide +kernel
theorem dX7_rotation_2 : decode cX7_rotation 2 = .ok (.iload_n 1, 1) := by decide +kernel
theorem dX7_rotation_3 : decode cX7_rotation 3 = .ok (.iload_n 2, 1) := by decide +kernel
theorem dX7_rotation_4 : decode cX7_rotation 4 = .ok (.iload_n 3, 1) := by decide +kernel
theorem dX7_rotation_5 : decode cX7_rotation 5 = .ok (.invokevirtual 150, 3) := by decide +kernel
theorem dX7_rotation_8 : decode cX7_rotation 8 = .ok (.invokevirtual 73, 3) := by decide +kernel
theorem dX7_rotation_11 : decode cX7_rotation 11 = .ok (.ifCond .eq 5, 3) := by decide +kernel
theorem dX7_rotation_14 : decode cX7_rotation 14 = .ok (.iconst 0, 1) := by decide +kernel
theorem dX7_rotation_15 : decode cX7_rotation 15 = .ok (.ireturn, 1) := by decide +kernel
theorem dX7_rotation_16 : decode cX7_rotation 16 = .ok (.aload_n 0, 1) := by decide +kernel
theorem dX7_rotation_17 : decode cX7_rotation 17 = .ok (.iload_n 1, 1) := by decide +kernel
theorem dX7_rotation_18 : decode cX7_rotation 18 = .ok (.iload_n 3, 1) := by decide +kernel
theorem dX7_rotation_19 : decode cX7_rotation 19 = .ok (.invokevirtual 69, 3) := by decide +kernel
theorem dX7_rotation_22 : decode cX7_rotation 22 = .ok (.ifCond .ne 7, 3) := by decide +kernel
theorem dX7_rotation_25 : decode cX7_rotation 25 = .ok (.iconst (-1), 1) := by decide +kernel
theorem dX7_rotation_26 : decode cX7_rotation 26 = .ok (.goto 4, 3) := by decide +kernel
theorem dX7_rotation_29 : decode cX7_rotation 29 = .ok (.iconst 0, 1) := by decide +kernel
theorem dX7_rotation_30 : decode cX7_rotation 30 = .ok (.istore 4, 2) := by decide +kernel
theorem dX7_rotation_32 : decode cX7_rotation 32 = .ok (.iconst 1, 1) := by decide +kernel
theorem dX7_rotation_33 : decode cX7_rotation 33 = .ok (.istore 5, 2) := by decide +kernel
theorem dX7_rotation_35 : decode cX7_rotation 35 = .ok (.iload 5, 2) := by decide +kernel
theorem dX7_rotation_37 : decode cX7_rotation 37 = .ok (.aload_n 0, 1) := by decide +kernel
theorem dX7_rotation_38 : decode cX7_rotation 38 = .ok (.iload_n 1, 1) := by decide +kernel
theorem dX7_rotation_39 : decode cX7_rotation 39 = .ok (.iload_n 3, 1) := by decide +kernel
theorem dX7_rotation_40 : decode cX7_rotation 40 = .ok (.invokevirtual 69, 3) := by decide +kernel
theorem dX7_rotation_43 : decode cX7_rotation 43 = .ok (.if_icmp .ge 27, 3) := by decide +kernel
theorem dX7_rotation_46 : decode cX7_rotation 46 = .ok (.aload_n 0, 1) := by decide +kernel
theorem dX7_rotation_47 : decode cX7_rotation 47 = .ok (.iload_n 1, 1) := by decide +kernel
theorem dX7_rotation_48 : decode cX7_rotation 48 = .ok (.iload_n 2, 1) := by decide +kernel
theorem dX7_rotation_49 : decode cX7_rotation 49 = .ok (.iload_n 3, 1) := by decide +kernel
theorem dX7_rotation_50 : decode cX7_rotation 50 = .ok (.iload 5, 2) := by decide +kernel
theorem dX7_rotation_52 : decode cX7_rotation 52 = .ok (.iload 4, 2) := by decide +kernel
theorem dX7_rotation_54 : decode cX7_rotation 54 = .ok (.invokevirtual 162, 3) := by decide +kernel
theorem dX7_rotation_57 : decode cX7_rotation 57 = .ok (.ifCond .eq 7, 3) := by decide +kernel
theorem dX7_rotation_60 : decode cX7_rotation 60 = .ok (.iload 5, 2) := by decide +kernel
theorem dX7_rotation_62 : decode cX7_rotation 62 = .ok (.istore 4, 2) := by decide +kernel
theorem dX7_rotation_64 : decode cX7_rotation 64 = .ok (.iinc 5 1, 3) := by decide +kernel
theorem dX7_rotation_67 : decode cX7_rotation 67 = .ok (.goto (-32), 3) := by decide +kernel
theorem dX7_rotation_70 : decode cX7_rotation 70 = .ok (.iload 4, 2) := by decide +kernel
theorem dX7_rotation_72 : decode cX7_rotation 72 = .ok (.ireturn, 1) := by decide +kernel
theorem dX7_lastOf_0 : decode cX7_lastOf 0 = .ok (.iconst 0, 1) := by decide +kernel
theorem dX7_lastOf_1 : decode cX7_lastOf 1 = .ok (.istore 5, 2) := by decide +kernel
theorem dX7_lastOf_3 : decode cX7_lastOf 3 = .ok (.iconst 1, 1) := by decide +kernel
theorem dX7_lastOf_4 : decode cX7_lastOf 4 = .ok (.istore 6, 2) := by decide +kernel
theorem dX7_lastOf_6 : decode cX7_lastOf 6 = .ok (.iload 6, 2) := by decide +kernel
theorem dX7_lastOf_8 : decode cX7_lastOf 8 = .ok (.iload 4, 2) := by decide +kernel
theorem dX7_lastOf_10 : decode cX7_lastOf 10 = .ok (.if_icmp .ge 29, 3) := by decide +kernel
theorem dX7_lastOf_13 : decode cX7_lastOf 13 = .ok (.aload_n 0, 1) := by decide +kernel
theorem dX7_lastOf_14 : decode cX7_lastOf 14 = .ok (.iload_n 1, 1) := by decide +kernel
theorem dX7_lastOf_15 : decode cX7_lastOf 15 = .ok (.iload_n 2, 1) := by decide +kernel
theorem dX7_lastOf_16 : decode cX7_lastOf 16 = .ok (.iload_n 3, 1) := by decide +kernel
theorem dX7_lastOf_17 : decode cX7_lastOf 17 = .ok (.iload 4, 2) := by decide +kernel
theorem dX7_lastOf_19 : decode cX7_lastOf 19 = .ok (.iload 6, 2) := by decide +kernel
theorem dX7_lastOf_21 : decode cX7_lastOf 21 = .ok (.iload 5, 2) := by decide +kernel
theorem dX7_lastOf_23 : decode cX7_lastOf 23 = .ok (.invokevirtual 154, 3) := by decide +kernel
theorem dX7_lastOf_26 : decode cX7_lastOf 26 = .ok (.ifCond .ge 7, 3) := by decide +kernel
theorem dX7_lastOf_29 : decode cX7_lastOf 29 = .ok (.iload 6, 2) := by decide +kernel
theorem dX7_lastOf_31 : decode cX7_lastOf 31 = .ok (.istore 5, 2) := by decide +kernel
theorem dX7_lastOf_33 : decode cX7_lastOf 33 = .ok (.iinc 6 1, 3) := by decide +kernel
theorem dX7_lastOf_36 : decode cX7_lastOf 36 = .ok (.goto (-30), 3) := by decide +kernel
theorem dX7_lastOf_39 : decode cX7_lastOf 39 = .ok (.iload 5, 2) := by decide +kernel
theorem dX7_lastOf_41 : decode cX7_lastOf 41 = .ok (.ireturn, 1) := by decide +kernel
theorem dX7_words_0 : decode cX7_words 0 = .ok (.iconst 0, 1) := by decide +kernel
theorem dX7_words_1 : decode cX7_words 1 = .ok (.istore 4, 2) := by decide +kernel
theorem dX7_words_3 : decode cX7_words 3 = .ok (.aload_n 0, 1) := by decide +kernel
theorem dX7_words_4 : decode cX7_words 4 = .ok (.iload_n 1, 1) := by decide +kernel
theorem dX7_words_5 : decode cX7_words 5 = .ok (.iload_n 3, 1) := by decide +kernel
theorem dX7_words_6 : decode cX7_words 6 = .ok (.invokevirtual 69, 3) := by decide +kernel
theorem dX7_words_9 : decode cX7_words 9 = .ok (.istore 5, 2) := by decide +kernel
theorem dX7_words_11 : decode cX7_words 11 = .ok (.iload 5, 2) := by decide +kernel
theorem dX7_words_13 : decode cX7_words 13 = .ok (.ifCond .le 20, 3) := by decide +kernel
theorem dX7_words_16 : decode cX7_words 16 = .ok (.iinc 4 1, 3) := by decide +kernel
theorem dX7_words_19 : decode cX7_words 19 = .ok (.aload_n 0, 1) := by decide +kernel
theorem dX7_words_20 : decode cX7_words 20 = .ok (.iload_n 1, 1) := by decide +kernel
theorem dX7_words_21 : decode cX7_words 21 = .ok (.iload_n 2, 1) := by decide +kernel
theorem dX7_words_22 : decode cX7_words 22 = .ok (.iload_n 3, 1) := by decide +kernel
theorem dX7_words_23 : decode cX7_words 23 = .ok (.iload 5, 2) := by decide +kernel
theorem dX7_words_25 : decode cX7_words 25 = .ok (.invokevirtual 166, 3) := by decide +kernel
theorem dX7_words_28 : decode cX7_words 28 = .ok (.istore 5, 2) := by decide +kernel
theorem dX7_words_30 : decode cX7_words 30 = .ok (.goto (-19), 3) := by decide +kernel
theorem dX7_words_33 : decode cX7_words 33 = .ok (.iload 4, 2) := by decide +kernel
theorem dX7_words_35 : decode cX7_words 35 = .ok (.ireturn, 1) := by decide +kernel
theorem dX7_factors_0 : decode cX7_factors 0 = .ok (.aload_n 0, 1) := by decide +kernel
theorem dX7_factors_1 : decode cX7_factors 1 = .ok (.aload_n 0, 1) := by decide +kernel
theorem dX7_factors_2 : decode cX7_factors 2 = .ok (.iload_n 1, 1) := by decide +kernel
theorem dX7_factors_3 : decode cX7_factors 3 = .ok (.iload_n 2, 1) := by decide +kernel
theorem dX7_factors_4 : decode cX7_factors 4 = .ok (.iload_n 3, 1) := by decide +kernel
theorem dX7_factors_5 : decode cX7_factors 5 = .ok (.invokevirtual 150, 3) := by decide +kernel
theorem dX7_factors_8 : decode cX7_factors 8 = .ok (.invokevirtual 73, 3) := by decide +kernel
theorem dX7_factors_11 : decode cX7_factors 11 = .ok (.ifCond .eq 7, 3) := by decide +kernel
theorem dX7_factors_14 : decode cX7_factors 14 = .ok (.iconst 0, 1) := by decide +kernel
theorem dX7_factors_15 : decode cX7_factors 15 = .ok (.goto 10, 3) := by decide +kernel
theorem dX7_factors_18 : decode cX7_factors 18 = .ok (.aload_n 0, 1) := by decide +kernel
theorem dX7_factors_19 : decode cX7_factors 19 = .ok (.iload_n 1, 1) := by decide +kernel
theorem dX7_factors_20 : decode cX7_factors 20 = .ok (.iload_n 2, 1) := by decide +kernel
theorem dX7_factors_21 : decode cX7_factors 21 = .ok (.iload_n 3, 1) := by decide +kernel
theorem dX7_factors_22 : decode cX7_factors 22 = .ok (.invokevirtual 169, 3) := by decide +kernel
theorem dX7_factors_25 : decode cX7_factors 25 = .ok (.ireturn, 1) := by decide +kernel
theorem dX7_factor_0 : decode cX7_factor 0 = .ok (.aload_n 0, 1) := by decide +kernel
theorem dX7_factor_1 : decode cX7_factor 1 = .ok (.iload_n 1, 1) := by decide +kernel
theorem dX7_factor_2 : decode cX7_factor 2 = .ok (.iload_n 2, 1) := by decide +kernel
theorem dX7_factor_3 : decode cX7_factor 3 = .ok (.iload_n 3, 1) := by decide +kernel
theorem dX7_factor_4 : decode cX7_factor 4 = .ok (.invokevirtual 150, 3) := by decide +kernel
theorem dX7_factor_7 : decode cX7_factor 7 = .ok (.istore 5, 2) := by decide +kernel
theorem dX7_factor_9 : decode cX7_factor 9 = .ok (.aload_n 0, 1) := by decide +kernel
theorem dX7_factor_10 : decode cX7_factor 10 = .ok (.iload 5, 2) := by decide +kernel
theorem dX7_factor_12 : decode cX7_factor 12 = .ok (.ifCond .le 8, 3) := by decide +kernel
theorem dX7_factor_15 : decode cX7_factor 15 = .ok (.iload 5, 2) := by decide +kernel
theorem dX7_factor_17 : decode cX7_factor 17 = .ok (.goto 28, 3) := by decide +kernel
theorem dX7_factor_20 : decode cX7_factor 20 = .ok (.iload 4, 2) := by decide +kernel
theorem dX7_factor_22 : decode cX7_factor 22 = .ok (.i2l, 1) := by decide +kernel
theorem dX7_factor_23 : decode cX7_factor 23 = .ok (.lconst 0, 1) := by decide +kernel
theorem dX7_factor_24 : decode cX7_factor 24 = .ok (.aload_n 0, 1) := by decide +kernel
theorem dX7_factor_25 : decode cX7_factor 25 = .ok (.iload_n 1, 1) := by decide +kernel
theorem dX7_factor_26 : decode cX7_factor 26 = .ok (.iload_n 2, 1) := by decide +kernel
theorem dX7_factor_27 : decode cX7_factor 27 = .ok (.iload_n 3, 1) := by decide +kernel
theorem dX7_factor_28 : decode cX7_factor 28 = .ok (.invokevirtual 169, 3) := by decide +kernel
theorem dX7_factor_31 : decode cX7_factor 31 = .ok (.iconst 1, 1) := by decide +kernel
theorem dX7_factor_32 : decode cX7_factor 32 = .ok (.isub, 1) := by decide +kernel
theorem dX7_factor_33 : decode cX7_factor 33 = .ok (.i2l, 1) := by decide +kernel
theorem dX7_factor_34 : decode cX7_factor 34 = .ok (.invokestatic 39, 3) := by decide +kernel
theorem dX7_factor_37 : decode cX7_factor 37 = .ok (.ifCond .eq 7, 3) := by decide +kernel
theorem dX7_factor_40 : decode cX7_factor 40 = .ok (.iconst 0, 1) := by decide +kernel
theorem dX7_factor_41 : decode cX7_factor 41 = .ok (.goto 4, 3) := by decide +kernel
theorem dX7_factor_44 : decode cX7_factor 44 = .ok (.iconst 2, 1) := by decide +kernel
theorem dX7_factor_45 : decode cX7_factor 45 = .ok (.invokevirtual 73, 3) := by decide +kernel
theorem dX7_factor_48 : decode cX7_factor 48 = .ok (.ifCond .eq 5, 3) := by decide +kernel
theorem dX7_factor_51 : decode cX7_factor 51 = .ok (.iconst 0, 1) := by decide +kernel
theorem dX7_factor_52 : decode cX7_factor 52 = .ok (.ireturn, 1) := by decide +kernel
theorem dX7_factor_53 : decode cX7_factor 53 = .ok (.aload_n 0, 1) := by decide +kernel
theorem dX7_factor_54 : decode cX7_factor 54 = .ok (.iload_n 1, 1) := by decide +kernel
theorem dX7_factor_55 : decode cX7_factor 55 = .ok (.iload_n 3, 1) := by decide +kernel
theorem dX7_factor_56 : decode cX7_factor 56 = .ok (.invokevirtual 69, 3) := by decide +kernel
theorem dX7_factor_59 : decode cX7_factor 59 = .ok (.istore 6, 2) := by decide +kernel
theorem dX7_factor_61 : decode cX7_factor 61 = .ok (.aload_n 0, 1) := by decide +kernel
theorem dX7_factor_62 : decode cX7_factor 62 = .ok (.iload_n 1, 1) := by decide +kernel
theorem dX7_factor_63 : decode cX7_factor 63 = .ok (.iload_n 2, 1) := by decide +kernel
theorem dX7_factor_64 : decode cX7_factor 64 = .ok (.iload_n 3, 1) := by decide +kernel
theorem dX7_factor_65 : decode cX7_factor 65 = .ok (.invokevirtual 169, 3) := by decide +kernel
theorem dX7_factor_68 : decode cX7_factor 68 = .ok (.istore 7, 2) := by decide +kernel
theorem dX7_factor_70 : decode cX7_factor 70 = .ok (.iload 7, 2) := by decide +kernel
theorem dX7_factor_72 : decode cX7_factor 72 = .ok (.iload 4, 2) := by decide +kernel
theorem dX7_factor_74 : decode cX7_factor 74 = .ok (.if_icmp .le 20, 3) := by decide +kernel
theorem dX7_factor_77 : decode cX7_factor 77 = .ok (.aload_n 0, 1) := by decide +kernel
theorem dX7_factor_78 : decode cX7_factor 78 = .ok (.iload_n 1, 1) := by decide +kernel
theorem dX7_factor_79 : decode cX7_factor 79 = .ok (.iload_n 2, 1) := by decide +kernel
theorem dX7_factor_80 : decode cX7_factor 80 = .ok (.iload_n 3, 1) := by decide +kernel
theorem dX7_factor_81 : decode cX7_factor 81 = .ok (.iload 6, 2) := by decide +kernel
theorem dX7_factor_83 : decode cX7_factor 83 = .ok (.invokevirtual 166, 3) := by decide +kernel
theorem dX7_factor_86 : decode cX7_factor 86 = .ok (.istore 6, 2) := by decide +kernel
theorem dX7_factor_88 : decode cX7_factor 88 = .ok (.iinc 7 (-1), 3) := by decide +kernel
theorem dX7_factor_91 : decode cX7_factor 91 = .ok (.goto (-21), 3) := by decide +kernel
theorem dX7_factor_94 : decode cX7_factor 94 = .ok (.iload 6, 2) := by decide +kernel
theorem dX7_factor_96 : decode cX7_factor 96 = .ok (.ireturn, 1) := by decide +kernel
theorem dX7_share_0 : decode cX7_share 0 = .ok (.iconst 0, 1) := by decide +kernel
theorem dX7_share_1 : decode cX7_share 1 = .ok (.istore_n 2, 1) := by decide +kernel
theorem dX7_share_2 : decode cX7_share 2 = .ok (.iconst 0, 1) := by decide +kernel
theorem dX7_share_3 : decode cX7_share 3 = .ok (.istore_n 3, 1) := by decide +kernel
theorem dX7_share_4 : decode cX7_share 4 = .ok (.iconst 0, 1) := by decide +kernel
theorem dX7_share_5 : decode cX7_share 5 = .ok (.istore 4, 2) := by decide +kernel
theorem dX7_share_7 : decode cX7_share 7 = .ok (.iload 4, 2) := by decide +kernel
theorem dX7_share_9 : decode cX7_share 9 = .ok (.bipush 12, 2) := by decide +kernel
theorem dX7_share_11 : decode cX7_share 11 = .ok (.if_icmp .ge 80, 3) := by decide +kernel
theorem dX7_share_14 : decode cX7_share 14 = .ok (.iload_n 1, 1) := by decide +kernel
theorem dX7_share_15 : decode cX7_share 15 = .ok (.invokestatic 57, 3) := by decide +kernel
theorem dX7_share_18 : decode cX7_share 18 = .ok (.ifCond .eq 73, 3) := by decide +kernel
theorem dX7_share_21 : decode cX7_share 21 = .ok (.aload_n 0, 1) := by decide +kernel
theorem dX7_share_22 : decode cX7_share 22 = .ok (.iload_n 1, 1) := by decide +kernel
theorem dX7_share_23 : decode cX7_share 23 = .ok (.iload 4, 2) := by decide +kernel
theorem dX7_share_25 : decode cX7_share 25 = .ok (.invokevirtual 110, 3) := by decide +kernel
theorem dX7_share_28 : decode cX7_share 28 = .ok (.ifCond .ne 6, 3) := by decide +kernel
theorem dX7_share_31 : decode cX7_share 31 = .ok (.goto 54, 3) := by decide +kernel
theorem dX7_share_34 : decode cX7_share 34 = .ok (.iinc 2 1, 3) := by decide +kernel
theorem dX7_share_37 : decode cX7_share 37 = .ok (.iconst 0, 1) := by decide +kernel
theorem dX7_share_38 : decode cX7_share 38 = .ok (.istore 5, 2) := by decide +kernel
theorem dX7_share_40 : decode cX7_share 40 = .ok (.iload 5, 2) := by decide +kernel
theorem dX7_share_42 : decode cX7_share 42 = .ok (.iload 4, 2) := by decide +kernel
theorem dX7_share_44 : decode cX7_share 44 = .ok (.if_icmp .ge 41, 3) := by decide +kernel
theorem dX7_share_47 : decode cX7_share 47 = .ok (.iload_n 3, 1) := by decide +kernel
theorem dX7_share_48 : decode cX7_share 48 = .ok (.aload_n 0, 1) := by decide +kernel
theorem dX7_share_49 : decode cX7_share 49 = .ok (.iload_n 1, 1) := by decide +kernel
theorem dX7_share_50 : decode cX7_share 50 = .ok (.iload 5, 2) := by decide +kernel
theorem dX7_share_52 : decode cX7_share 52 = .ok (.invokevirtual 110, 3) := by decide +kernel
theorem dX7_share_55 : decode cX7_share 55 = .ok (.ifCond .eq 21, 3) := by decide +kernel
theorem dX7_share_58 : decode cX7_share 58 = .ok (.aload_n 0, 1) := by decide +kernel
theorem dX7_share_59 : decode cX7_share 59 = .ok (.iload_n 1, 1) := by decide +kernel
theorem dX7_share_60 : decode cX7_share 60 = .ok (.bipush 115, 2) := by decide +kernel
theorem dX7_share_62 : decode cX7_share 62 = .ok (.iload 5, 2) := by decide +kernel
theorem dX7_share_64 : decode cX7_share 64 = .ok (.iload 4, 2) := by decide +kernel
theorem dX7_share_66 : decode cX7_share 66 = .ok (.invokevirtual 143, 3) := by decide +kernel
theorem dX7_share_69 : decode cX7_share 69 = .ok (.ifCond .ne 7, 3) := by decide +kernel
theorem dX7_share_72 : decode cX7_share 72 = .ok (.iconst 1, 1) := by decide +kernel
theorem dX7_share_73 : decode cX7_share 73 = .ok (.goto 4, 3) := by decide +kernel
theorem dX7_share_76 : decode cX7_share 76 = .ok (.iconst 0, 1) := by decide +kernel
theorem dX7_share_77 : decode cX7_share 77 = .ok (.iadd, 1) := by decide +kernel
theorem dX7_share_78 : decode cX7_share 78 = .ok (.istore_n 3, 1) := by decide +kernel
theorem dX7_share_79 : decode cX7_share 79 = .ok (.iinc 5 1, 3) := by decide +kernel
theorem dX7_share_82 : decode cX7_share 82 = .ok (.goto (-42), 3) := by decide +kernel
theorem dX7_share_85 : decode cX7_share 85 = .ok (.iinc 4 1, 3) := by decide +kernel
theorem dX7_share_88 : decode cX7_share 88 = .ok (.goto (-81), 3) := by decide +kernel
theorem dX7_share_91 : decode cX7_share 91 = .ok (.aload_n 0, 1) := by decide +kernel
theorem dX7_share_92 : decode cX7_share 92 = .ok (.iload_n 1, 1) := by decide +kernel
theorem dX7_share_93 : decode cX7_share 93 = .ok (.invokestatic 57, 3) := by decide +kernel
theorem dX7_share_96 : decode cX7_share 96 = .ok (.ifCond .ne 7, 3) := by decide +kernel
theorem dX7_share_99 : decode cX7_share 99 = .ok (.iconst 1, 1) := by decide +kernel
theorem dX7_share_100 : decode cX7_share 100 = .ok (.goto 13, 3) := by decide +kernel
theorem dX7_share_103 : decode cX7_share 103 = .ok (.iload_n 2, 1) := by decide +kernel
theorem dX7_share_104 : decode cX7_share 104 = .ok (.iconst 2, 1) := by decide +kernel
theorem dX7_share_105 : decode cX7_share 105 = .ok (.if_icmp .ge 7, 3) := by decide +kernel
theorem dX7_share_108 : decode cX7_share 108 = .ok (.iconst 2, 1) := by decide +kernel
theorem dX7_share_109 : decode cX7_share 109 = .ok (.goto 4, 3) := by decide +kernel
theorem dX7_share_112 : decode cX7_share 112 = .ok (.iconst 0, 1) := by decide +kernel
theorem dX7_share_113 : decode cX7_share 113 = .ok (.invokevirtual 73, 3) := by decide +kernel
theorem dX7_share_116 : decode cX7_share 116 = .ok (.ifCond .eq 5, 3) := by decide +kernel
theorem dX7_share_119 : decode cX7_share 119 = .ok (.fconst 0, 1) := by decide +kernel
theorem dX7_share_120 : decode cX7_share 120 = .ok (.freturn, 1) := by decide +kernel
theorem dX7_share_121 : decode cX7_share 121 = .ok (.iload_n 3, 1) := by decide +kernel
theorem dX7_share_122 : decode cX7_share 122 = .ok (.i2f, 1) := by decide +kernel
theorem dX7_share_123 : decode cX7_share 123 = .ok (.iload_n 2, 1) := by decide +kernel
theorem dX7_share_124 : decode cX7_share 124 = .ok (.iload_n 2, 1) := by decide +kernel
theorem dX7_share_125 : decode cX7_share 125 = .ok (.iconst 1, 1) := by decide +kernel
theorem dX7_share_126 : decode cX7_share 126 = .ok (.isub, 1) := by decide +kernel
theorem dX7_share_127 : decode cX7_share 127 = .ok (.imul, 1) := by decide +kernel
theorem dX7_share_128 : decode cX7_share 128 = .ok (.iconst 2, 1) := by decide +kernel
theorem dX7_share_129 : decode cX7_share 129 = .ok (.idiv, 1) := by decide +kernel
theorem dX7_share_130 : decode cX7_share 130 = .ok (.i2f, 1) := by decide +kernel
theorem dX7_share_131 : decode cX7_share 131 = .ok (.fdiv, 1) := by decide +kernel
theorem dX7_share_132 : decode cX7_share 132 = .ok (.freturn, 1) := by decide +kernel
theorem dX7_mean_0 : decode cX7_mean 0 = .ok (.aload_n 0, 1) := by decide +kernel
theorem dX7_mean_1 : decode cX7_mean 1 = .ok (.iload_n 1, 1) := by decide +kernel
theorem dX7_mean_2 : decode cX7_mean 2 = .ok (.invokestatic 57, 3) := by decide +kernel
theorem dX7_mean_5 : decode cX7_mean 5 = .ok (.ifCond .eq 7, 3) := by decide +kernel
theorem dX7_mean_8 : decode cX7_mean 8 = .ok (.iconst 0, 1) := by decide +kernel
theorem dX7_mean_9 : decode cX7_mean 9 = .ok (.goto 4, 3) := by decide +kernel
theorem dX7_mean_12 : decode cX7_mean 12 = .ok (.iconst 1, 1) := by decide +kernel
theorem dX7_mean_13 : decode cX7_mean 13 = .ok (.invokevirtual 73, 3) := by decide +kernel
theorem dX7_mean_16 : decode cX7_mean 16 = .ok (.ifCond .eq 5, 3) := by decide +kernel
theorem dX7_mean_19 : decode cX7_mean 19 = .ok (.dconst 0, 1) := by decide +kernel
theorem dX7_mean_20 : decode cX7_mean 20 = .ok (.dreturn, 1) := by decide +kernel
theorem dX7_mean_21 : decode cX7_mean 21 = .ok (.iconst 0, 1) := by decide +kernel
theorem dX7_mean_22 : decode cX7_mean 22 = .ok (.istore_n 2, 1) := by decide +kernel
theorem dX7_mean_23 : decode cX7_mean 23 = .ok (.iconst 0, 1) := by decide +kernel
theorem dX7_mean_24 : decode cX7_mean 24 = .ok (.istore_n 3, 1) := by decide +kernel
theorem dX7_mean_25 : decode cX7_mean 25 = .ok (.iload_n 3, 1) := by decide +kernel
theorem dX7_mean_26 : decode cX7_mean 26 = .ok (.iconst 4, 1) := by decide +kernel
theorem dX7_mean_27 : decode cX7_mean 27 = .ok (.if_icmp .ge 18, 3) := by decide +kernel
theorem dX7_mean_30 : decode cX7_mean 30 = .ok (.iload_n 2, 1) := by decide +kernel
theorem dX7_mean_31 : decode cX7_mean 31 = .ok (.aload_n 0, 1) := by decide +kernel
theorem dX7_mean_32 : decode cX7_mean 32 = .ok (.iload_n 1, 1) := by decide +kernel
theorem dX7_mean_33 : decode cX7_mean 33 = .ok (.iload_n 3, 1) := by decide +kernel
theorem dX7_mean_34 : decode cX7_mean 34 = .ok (.invokevirtual 69, 3) := by decide +kernel
theorem dX7_mean_37 : decode cX7_mean 37 = .ok (.iadd, 1) := by decide +kernel
theorem dX7_mean_38 : decode cX7_mean 38 = .ok (.istore_n 2, 1) := by decide +kernel
theorem dX7_mean_39 : decode cX7_mean 39 = .ok (.iinc 3 1, 3) := by decide +kernel
theorem dX7_mean_42 : decode cX7_mean 42 = .ok (.goto (-17), 3) := by decide +kernel
theorem dX7_mean_45 : decode cX7_mean 45 = .ok (.iload_n 2, 1) := by decide +kernel
theorem dX7_mean_46 : decode cX7_mean 46 = .ok (.i2d, 1) := by decide +kernel
theorem dX7_mean_47 : decode cX7_mean 47 = .ok (.ldc2_w 172, 3) := by decide +kernel
theorem dX7_mean_50 : decode cX7_mean 50 = .ok (.ddiv, 1) := by decide +kernel
theorem dX7_mean_51 : decode cX7_mean 51 = .ok (.dreturn, 1) := by decide +kernel
theorem dX7_checksum_0 : decode cX7_checksum 0 = .ok (.aload_n 0, 1) := by decide +kernel
theorem dX7_checksum_1 : decode cX7_checksum 1 = .ok (.iconst 0, 1) := by decide +kernel
theorem dX7_checksum_2 : decode cX7_checksum 2 = .ok (.putfield 29, 3) := by decide +kernel
theorem dX7_checksum_5 : decode cX7_checksum 5 = .ok (.ldc2_w 174, 3) := by decide +kernel
theorem dX7_checksum_8 : decode cX7_checksum 8 = .ok (.lstore_n 1, 1) := by decide +kernel
theorem dX7_checksum_9 : decode cX7_checksum 9 = .ok (.iconst 0, 1) := by decide +kernel
theorem dX7_checksum_10 : decode cX7_checksum 10 = .ok (.istore_n 3, 1) := by decide +kernel
theorem dX7_checksum_11 : decode cX7_checksum 11 = .ok (.iload_n 3, 1) := by decide +kernel
theorem dX7_checksum_12 : decode cX7_checksum 12 = .ok (.bipush 16, 2) := by decide +kernel
theorem dX7_checksum_14 : decode cX7_checksum 14 = .ok (.if_icmp .ge 62, 3) := by decide +kernel
theorem dX7_checksum_17 : decode cX7_checksum 17 = .ok (.ldc2_w 176, 3) := by decide +kernel
theorem dX7_checksum_20 : decode cX7_checksum 20 = .ok (.lload_n 1, 1) := by decide +kernel
theorem dX7_checksum_21 : decode cX7_checksum 21 = .ok (.lmul, 1) := by decide +kernel
theorem dX7_checksum_22 : decode cX7_checksum 22 = .ok (.aload_n 0, 1) := by decide +kernel
theorem dX7_checksum_23 : decode cX7_checksum 23 = .ok (.getfield 13, 3) := by decide +kernel
theorem dX7_checksum_26 : decode cX7_checksum 26 = .ok (.iload_n 3, 1) := by decide +kernel
theorem dX7_checksum_27 : decode cX7_checksum 27 = .ok (.iaload, 1) := by decide +kernel
theorem dX7_checksum_28 : decode cX7_checksum 28 = .ok (.i2l, 1) := by decide +kernel
theorem dX7_checksum_29 : decode cX7_checksum 29 = .ok (.ladd, 1) := by decide +kernel
theorem dX7_checksum_30 : decode cX7_checksum 30 = .ok (.lstore_n 1, 1) := by decide +kernel
theorem dX7_checksum_31 : decode cX7_checksum 31 = .ok (.iconst 0, 1) := by decide +kernel
theorem dX7_checksum_32 : decode cX7_checksum 32 = .ok (.istore 4, 2) := by decide +kernel
theorem dX7_checksum_34 : decode cX7_checksum 34 = .ok (.iload 4, 2) := by decide +kernel
theorem dX7_checksum_36 : decode cX7_checksum 36 = .ok (.aload_n 0, 1) := by decide +kernel
theorem dX7_checksum_37 : decode cX7_checksum 37 = .ok (.getfield 13, 3) := by decide +kernel
theorem dX7_checksum_40 : decode cX7_checksum 40 = .ok (.iload_n 3, 1) := by decide +kernel
theorem dX7_checksum_41 : decode cX7_checksum 41 = .ok (.iaload, 1) := by decide +kernel
theorem dX7_checksum_42 : decode cX7_checksum 42 = .ok (.if_icmp .ge 28, 3) := by decide +kernel
theorem dX7_checksum_45 : decode cX7_checksum 45 = .ok (.ldc2_w 176, 3) := by decide +kernel
theorem dX7_checksum_48 : decode cX7_checksum 48 = .ok (.lload_n 1, 1) := by decide +kernel
theorem dX7_checksum_49 : decode cX7_checksum 49 = .ok (.lmul, 1) := by decide +kernel
theorem dX7_checksum_50 : decode cX7_checksum 50 = .ok (.aload_n 0, 1) := by decide +kernel
theorem dX7_checksum_51 : decode cX7_checksum 51 = .ok (.getfield 7, 3) := by decide +kernel
theorem dX7_checksum_54 : decode cX7_checksum 54 = .ok (.bipush 32, 2) := by decide +kernel
theorem dX7_checksum_56 : decode cX7_checksum 56 = .ok (.iload_n 3, 1) := by decide +kernel
theorem dX7_checksum_57 : decode cX7_checksum 57 = .ok (.imul, 1) := by decide +kernel
theorem dX7_checksum_58 : decode cX7_checksum 58 = .ok (.iload 4, 2) := by decide +kernel
theorem dX7_checksum_60 : decode cX7_checksum 60 = .ok (.iadd, 1) := by decide +kernel
theorem dX7_checksum_61 : decode cX7_checksum 61 = .ok (.laload, 1) := by decide +kernel
theorem dX7_checksum_62 : decode cX7_checksum 62 = .ok (.ladd, 1) := by decide +kernel
theorem dX7_checksum_63 : decode cX7_checksum 63 = .ok (.lstore_n 1, 1) := by decide +kernel
theorem dX7_checksum_64 : decode cX7_checksum 64 = .ok (.iinc 4 1, 3) := by decide +kernel
theorem dX7_checksum_67 : decode cX7_checksum 67 = .ok (.goto (-33), 3) := by decide +kernel
theorem dX7_checksum_70 : decode cX7_checksum 70 = .ok (.iinc 3 1, 3) := by decide +kernel
theorem dX7_checksum_73 : decode cX7_checksum 73 = .ok (.goto (-62), 3) := by decide +kernel
theorem dX7_checksum_76 : decode cX7_checksum 76 = .ok (.iconst 0, 1) := by decide +kernel
theorem dX7_checksum_77 : decode cX7_checksum 77 = .ok (.istore_n 3, 1) := by decide +kernel
theorem dX7_checksum_78 : decode cX7_checksum 78 = .ok (.iload_n 3, 1) := by decide +kernel
theorem dX7_checksum_79 : decode cX7_checksum 79 = .ok (.bipush 12, 2) := by decide +kernel
theorem dX7_checksum_81 : decode cX7_checksum 81 = .ok (.if_icmp .ge 47, 3) := by decide +kernel
theorem dX7_checksum_84 : decode cX7_checksum 84 = .ok (.ldc2_w 176, 3) := by decide +kernel
theorem dX7_checksum_87 : decode cX7_checksum 87 = .ok (.ldc2_w 176, 3) := by decide +kernel
theorem dX7_checksum_90 : decode cX7_checksum 90 = .ok (.ldc2_w 176, 3) := by decide +kernel
theorem dX7_checksum_93 : decode cX7_checksum 93 = .ok (.lload_n 1, 1) := by decide +kernel
theorem dX7_checksum_94 : decode cX7_checksum 94 = .ok (.lmul, 1) := by decide +kernel
theorem dX7_checksum_95 : decode cX7_checksum 95 = .ok (.aload_n 0, 1) := by decide +kernel
theorem dX7_checksum_96 : decode cX7_checksum 96 = .ok (.getfield 17, 3) := by decide +kernel
theorem dX7_checksum_99 : decode cX7_checksum 99 = .ok (.iload_n 3, 1) := by decide +kernel
theorem dX7_checksum_100 : decode cX7_checksum 100 = .ok (.iaload, 1) := by decide +kernel
theorem dX7_checksum_101 : decode cX7_checksum 101 = .ok (.i2l, 1) := by decide +kernel
theorem dX7_checksum_102 : decode cX7_checksum 102 = .ok (.ladd, 1) := by decide +kernel
theorem dX7_checksum_103 : decode cX7_checksum 103 = .ok (.lmul, 1) := by decide +kernel
theorem dX7_checksum_104 : decode cX7_checksum 104 = .ok (.aload_n 0, 1) := by decide +kernel
theorem dX7_checksum_105 : decode cX7_checksum 105 = .ok (.getfield 20, 3) := by decide +kernel
theorem dX7_checksum_108 : decode cX7_checksum 108 = .ok (.iload_n 3, 1) := by decide +kernel
theorem dX7_checksum_109 : decode cX7_checksum 109 = .ok (.iaload, 1) := by decide +kernel
theorem dX7_checksum_110 : decode cX7_checksum 110 = .ok (.i2l, 1) := by decide +kernel
theorem dX7_checksum_111 : decode cX7_checksum 111 = .ok (.ladd, 1) := by decide +kernel
theorem dX7_checksum_112 : decode cX7_checksum 112 = .ok (.lmul, 1) := by decide +kernel
theorem dX7_checksum_113 : decode cX7_checksum 113 = .ok (.aload_n 0, 1) := by decide +kernel
theorem dX7_checksum_114 : decode cX7_checksum 114 = .ok (.getfield 23, 3) := by decide +kernel
theorem dX7_checksum_117 : decode cX7_checksum 117 = .ok (.iload_n 3, 1) := by decide +kernel
theorem dX7_checksum_118 : decode cX7_checksum 118 = .ok (.iaload, 1) := by decide +kernel
theorem dX7_checksum_119 : decode cX7_checksum 119 = .ok (.i2l, 1) := by decide +kernel
theorem dX7_checksum_120 : decode cX7_checksum 120 = .ok (.ladd, 1) := by decide +kernel
theorem dX7_checksum_121 : decode cX7_checksum 121 = .ok (.lstore_n 1, 1) := by decide +kernel
theorem dX7_checksum_122 : decode cX7_checksum 122 = .ok (.iinc 3 1, 3) := by decide +kernel
theorem dX7_checksum_125 : decode cX7_checksum 125 = .ok (.goto (-47), 3) := by decide +kernel
theorem dX7_checksum_128 : decode cX7_checksum 128 = .ok (.ldc2_w 176, 3) := by decide +kernel
theorem dX7_checksum_131 : decode cX7_checksum 131 = .ok (.lload_n 1, 1) := by decide +kernel
theorem dX7_checksum_132 : decode cX7_checksum 132 = .ok (.lmul, 1) := by decide +kernel
theorem dX7_checksum_133 : decode cX7_checksum 133 = .ok (.aload_n 0, 1) := by decide +kernel
theorem dX7_checksum_134 : decode cX7_checksum 134 = .ok (.getfield 147, 3) := by decide +kernel
theorem dX7_checksum_137 : decode cX7_checksum 137 = .ok (.i2l, 1) := by decide +kernel
theorem dX7_checksum_138 : decode cX7_checksum 138 = .ok (.ladd, 1) := by decide +kernel
theorem dX7_checksum_139 : decode cX7_checksum 139 = .ok (.lstore_n 1, 1) := by decide +kernel
theorem dX7_checksum_140 : decode cX7_checksum 140 = .ok (.iconst 0, 1) := by decide +kernel
theorem dX7_checksum_141 : decode cX7_checksum 141 = .ok (.istore_n 3, 1) := by decide +kernel
theorem dX7_checksum_142 : decode cX7_checksum 142 = .ok (.iload_n 3, 1) := by decide +kernel
theorem dX7_checksum_143 : decode cX7_checksum 143 = .ok (.aload_n 0, 1) := by decide +kernel
theorem dX7_checksum_144 : decode cX7_checksum 144 = .ok (.getfield 147, 3) := by decide +kernel
theorem dX7_checksum_147 : decode cX7_checksum 147 = .ok (.if_icmp .ge 23, 3) := by decide +kernel
theorem dX7_checksum_150 : decode cX7_checksum 150 = .ok (.ldc2_w 176, 3) := by decide +kernel
theorem dX7_checksum_153 : decode cX7_checksum 153 = .ok (.lload_n 1, 1) := by decide +kernel
theorem dX7_checksum_154 : decode cX7_checksum 154 = .ok (.lmul, 1) := by decide +kernel
theorem dX7_checksum_155 : decode cX7_checksum 155 = .ok (.aload_n 0, 1) := by decide +kernel
theorem dX7_checksum_156 : decode cX7_checksum 156 = .ok (.getfield 26, 3) := by decide +kernel
theorem dX7_checksum_159 : decode cX7_checksum 159 = .ok (.iload_n 3, 1) := by decide +kernel
theorem dX7_checksum_160 : decode cX7_checksum 160 = .ok (.iaload, 1) := by decide +kernel
theorem dX7_checksum_161 : decode cX7_checksum 161 = .ok (.i2l, 1) := by decide +kernel
theorem dX7_checksum_162 : decode cX7_checksum 162 = .ok (.ladd, 1) := by decide +kernel
theorem dX7_checksum_163 : decode cX7_checksum 163 = .ok (.lstore_n 1, 1) := by decide +kernel
theorem dX7_checksum_164 : decode cX7_checksum 164 = .ok (.iinc 3 1, 3) := by decide +kernel
theorem dX7_checksum_167 : decode cX7_checksum 167 = .ok (.goto (-25), 3) := by decide +kernel
theorem dX7_checksum_170 : decode cX7_checksum 170 = .ok (.lload_n 1, 1) := by decide +kernel
theorem dX7_checksum_171 : decode cX7_checksum 171 = .ok (.lreturn, 1) := by decide +kernel
theorem dX7_isTrue_0 : decode cX7_isTrue 0 = .ok (.aload_n 0, 1) := by decide +kernel
theorem dX7_isTrue_1 : decode cX7_isTrue 1 = .ok (.iload_n 1, 1) := by decide +kernel
theorem dX7_isTrue_2 : decode cX7_isTrue 2 = .ok (.invokestatic 57, 3) := by decide +kernel
theorem dX7_isTrue_5 : decode cX7_isTrue 5 = .ok (.iload_n 1, 1) := by decide +kernel
theorem dX7_isTrue_6 : decode cX7_isTrue 6 = .ok (.iload_n 2, 1) := by decide +kernel
theorem dX7_isTrue_7 : decode cX7_isTrue 7 = .ok (.iload_n 3, 1) := by decide +kernel
theorem dX7_isTrue_8 : decode cX7_isTrue 8 = .ok (.invokevirtual 129, 3) := by decide +kernel
theorem dX7_isTrue_11 : decode cX7_isTrue 11 = .ok (.istore 5, 2) := by decide +kernel
theorem dX7_isTrue_13 : decode cX7_isTrue 13 = .ok (.aload_n 0, 1) := by decide +kernel
theorem dX7_isTrue_14 : decode cX7_isTrue 14 = .ok (.iload_n 1, 1) := by decide +kernel
theorem dX7_isTrue_15 : decode cX7_isTrue 15 = .ok (.invokestatic 57, 3) := by decide +kernel
theorem dX7_isTrue_18 : decode cX7_isTrue 18 = .ok (.iload_n 1, 1) := by decide +kernel
theorem dX7_isTrue_19 : decode cX7_isTrue 19 = .ok (.iload 4, 2) := by decide +kernel
theorem dX7_isTrue_21 : decode cX7_isTrue 21 = .ok (.iload 4, 2) := by decide +kernel
theorem dX7_isTrue_23 : decode cX7_isTrue 23 = .ok (.invokevirtual 129, 3) := by decide +kernel
theorem dX7_isTrue_26 : decode cX7_isTrue 26 = .ok (.istore 6, 2) := by decide +kernel
theorem dX7_isTrue_28 : decode cX7_isTrue 28 = .ok (.aload_n 0, 1) := by decide +kernel
theorem dX7_isTrue_29 : decode cX7_isTrue 29 = .ok (.iload 5, 2) := by decide +kernel
theorem dX7_isTrue_31 : decode cX7_isTrue 31 = .ok (.ifCond .ne 8, 3) := by decide +kernel
theorem dX7_isTrue_34 : decode cX7_isTrue 34 = .ok (.iload 6, 2) := by decide +kernel
theorem dX7_isTrue_36 : decode cX7_isTrue 36 = .ok (.goto 27, 3) := by decide +kernel
theorem dX7_isTrue_39 : decode cX7_isTrue 39 = .ok (.iload 6, 2) := by decide +kernel
theorem dX7_isTrue_41 : decode cX7_isTrue 41 = .ok (.ifCond .ne 8, 3) := by decide +kernel
theorem dX7_isTrue_44 : decode cX7_isTrue 44 = .ok (.iload 5, 2) := by decide +kernel
theorem dX7_isTrue_46 : decode cX7_isTrue 46 = .ok (.goto 17, 3) := by decide +kernel
theorem dX7_isTrue_49 : decode cX7_isTrue 49 = .ok (.iload 5, 2) := by decide +kernel
theorem dX7_isTrue_51 : decode cX7_isTrue 51 = .ok (.iload 6, 2) := by decide +kernel
theorem dX7_isTrue_53 : decode cX7_isTrue 53 = .ok (.if_icmp .ge 8, 3) := by decide +kernel
theorem dX7_isTrue_56 : decode cX7_isTrue 56 = .ok (.iload 5, 2) := by decide +kernel
theorem dX7_isTrue_58 : decode cX7_isTrue 58 = .ok (.goto 5, 3) := by decide +kernel
theorem dX7_isTrue_61 : decode cX7_isTrue 61 = .ok (.iload 6, 2) := by decide +kernel
theorem dX7_isTrue_63 : decode cX7_isTrue 63 = .ok (.invokevirtual 73, 3) := by decide +kernel
theorem dX7_isTrue_66 : decode cX7_isTrue 66 = .ok (.ifCond .ne 7, 3) := by decide +kernel
theorem dX7_isTrue_69 : decode cX7_isTrue 69 = .ok (.iconst 1, 1) := by decide +kernel
theorem dX7_isTrue_70 : decode cX7_isTrue 70 = .ok (.goto 4, 3) := by decide +kernel
theorem dX7_isTrue_73 : decode cX7_isTrue 73 = .ok (.iconst 0, 1) := by decide +kernel
theorem dX7_isTrue_74 : decode cX7_isTrue 74 = .ok (.ireturn, 1) := by decide +kernel
theorem dX7_rowIsTrue_0 : decode cX7_rowIsTrue 0 = .ok (.aload_n 0, 1) := by decide +kernel
theorem dX7_rowIsTrue_1 : decode cX7_rowIsTrue 1 = .ok (.aload_n 0, 1) := by decide +kernel
theorem dX7_rowIsTrue_2 : decode cX7_rowIsTrue 2 = .ok (.iload_n 1, 1) := by decide +kernel
theorem dX7_rowIsTrue_3 : decode cX7_rowIsTrue 3 = .ok (.iload_n 2, 1) := by decide +kernel
theorem dX7_rowIsTrue_4 : decode cX7_rowIsTrue 4 = .ok (.iload_n 3, 1) := by decide +kernel
theorem dX7_rowIsTrue_5 : decode cX7_rowIsTrue 5 = .ok (.invokevirtual 150, 3) := by decide +kernel
theorem dX7_rowIsTrue_8 : decode cX7_rowIsTrue 8 = .ok (.invokevirtual 73, 3) := by decide +kernel
theorem dX7_rowIsTrue_11 : decode cX7_rowIsTrue 11 = .ok (.ifCond .ne 7, 3) := by decide +kernel
theorem dX7_rowIsTrue_14 : decode cX7_rowIsTrue 14 = .ok (.iconst 1, 1) := by decide +kernel
theorem dX7_rowIsTrue_15 : decode cX7_rowIsTrue 15 = .ok (.goto 4, 3) := by decide +kernel
theorem dX7_rowIsTrue_18 : decode cX7_rowIsTrue 18 = .ok (.iconst 0, 1) := by decide +kernel
theorem dX7_rowIsTrue_19 : decode cX7_rowIsTrue 19 = .ok (.ireturn, 1) := by decide +kernel
theorem dJ9_max_7cf53_0 : decode cJ9_max_7cf53 0 = .ok (.iload_n 0, 1) := by decide +kernel
theorem dJ9_max_7cf53_1 : decode cJ9_max_7cf53 1 = .ok (.iload_n 1, 1) := by decide +kernel
theorem dJ9_max_7cf53_2 : decode cJ9_max_7cf53 2 = .ok (.if_icmp .lt 7, 3) := by decide +kernel
theorem dJ9_max_7cf53_5 : decode cJ9_max_7cf53 5 = .ok (.iload_n 0, 1) := by decide +kernel
theorem dJ9_max_7cf53_6 : decode cJ9_max_7cf53 6 = .ok (.goto 4, 3) := by decide +kernel
theorem dJ9_max_7cf53_9 : decode cJ9_max_7cf53 9 = .ok (.iload_n 1, 1) := by decide +kernel
theorem dJ9_max_7cf53_10 : decode cJ9_max_7cf53 10 = .ok (.ireturn, 1) := by decide +kernel
theorem dJ9_min_7cf53_0 : decode cJ9_min_7cf53 0 = .ok (.iload_n 0, 1) := by decide +kernel
theorem dJ9_min_7cf53_1 : decode cJ9_min_7cf53 1 = .ok (.iload_n 1, 1) := by decide +kernel
theorem dJ9_min_7cf53_2 : decode cJ9_min_7cf53 2 = .ok (.if_icmp .gt 7, 3) := by decide +kernel
theorem dJ9_min_7cf53_5 : decode cJ9_min_7cf53 5 = .ok (.iload_n 0, 1) := by decide +kernel
theorem dJ9_min_7cf53_6 : decode cJ9_min_7cf53 6 = .ok (.goto 4, 3) := by decide +kernel
theorem dJ9_min_7cf53_9 : decode cJ9_min_7cf53 9 = .ok (.iload_n 1, 1) := by decide +kernel
theorem dJ9_min_7cf53_10 : decode cJ9_min_7cf53 10 = .ok (.ireturn, 1) := by decide +kernel
theorem dL_append_0 : decode cL_append 0 = .ok (.aload 5, 2) := by decide +kernel
theorem dL_append_2 : decode cL_append 2 = .ok (.iconst 0, 1) := by decide +kernel
theorem dL_append_3 : decode cL_append 3 = .ok (.aload_n 0, 1) := by decide +kernel
theorem dL_append_4 : decode cL_append 4 = .ok (.iload_n 1, 1) := by decide +kernel
theorem dL_append_5 : decode cL_append 5 = .ok (.iload_n 2, 1) := by decide +kernel
theorem dL_append_6 : decode cL_append 6 = .ok (.lload_n 3, 1) := by decide +kernel
theorem dL_append_7 : decode cL_append 7 = .ok (.invokevirtual 7, 3) := by decide +kernel
theorem dL_append_10 : decode cL_append 10 = .ok (.i2l, 1) := by decide +kernel
theorem dL_append_11 : decode cL_append 11 = .ok (.lastore, 1) := by decide +kernel
theorem dL_append_12 : decode cL_append 12 = .ok (.goto 15, 3) := by decide +kernel
theorem dL_append_15 : decode cL_append 15 = .ok (.astore 6, 2) := by decide +kernel
theorem dL_append_17 : decode cL_append 17 = .ok (.iconst 1, 1) := by decide +kernel
theorem dL_append_18 : decode cL_append 18 = .ok (.ireturn, 1) := by decide +kernel
theorem dL_append_19 : decode cL_append 19 = .ok (.astore 6, 2) := by decide +kernel
theorem dL_append_21 : decode cL_append 21 = .ok (.iconst 2, 1) := by decide +kernel
theorem dL_append_22 : decode cL_append 22 = .ok (.ireturn, 1) := by decide +kernel
theorem dL_append_23 : decode cL_append 23 = .ok (.astore 6, 2) := by decide +kernel
theorem dL_append_25 : decode cL_append 25 = .ok (.iconst 3, 1) := by decide +kernel
theorem dL_append_26 : decode cL_append 26 = .ok (.ireturn, 1) := by decide +kernel
theorem dL_append_27 : decode cL_append 27 = .ok (.iconst 0, 1) := by decide +kernel
theorem dL_append_28 : decode cL_append 28 = .ok (.ireturn, 1) := by decide +kernel
theorem dL_set_0 : decode cL_set 0 = .ok (.aload 6, 2) := by decide +kernel
theorem dL_set_2 : decode cL_set 2 = .ok (.iconst 0, 1) := by decide +kernel
theorem dL_set_3 : decode cL_set 3 = .ok (.aload_n 0, 1) := by decide +kernel
theorem dL_set_4 : decode cL_set 4 = .ok (.iload_n 1, 1) := by decide +kernel
theorem dL_set_5 : decode cL_set 5 = .ok (.iload_n 2, 1) := by decide +kernel
theorem dL_set_6 : decode cL_set 6 = .ok (.iload_n 3, 1) := by decide +kernel
theorem dL_set_7 : decode cL_set 7 = .ok (.lload 4, 2) := by decide +kernel
theorem dL_set_9 : decode cL_set 9 = .ok (.invokevirtual 19, 3) := by decide +kernel
theorem dL_set_12 : decode cL_set 12 = .ok (.lastore, 1) := by decide +kernel
theorem dL_set_13 : decode cL_set 13 = .ok (.goto 11, 3) := by decide +kernel
theorem dL_set_16 : decode cL_set 16 = .ok (.astore 7, 2) := by decide +kernel
theorem dL_set_18 : decode cL_set 18 = .ok (.iconst 1, 1) := by decide +kernel
theorem dL_set_19 : decode cL_set 19 = .ok (.ireturn, 1) := by decide +kernel
theorem dL_set_20 : decode cL_set 20 = .ok (.astore 7, 2) := by decide +kernel
theorem dL_set_22 : decode cL_set 22 = .ok (.iconst 2, 1) := by decide +kernel
theorem dL_set_23 : decode cL_set 23 = .ok (.ireturn, 1) := by decide +kernel
theorem dL_set_24 : decode cL_set 24 = .ok (.iconst 0, 1) := by decide +kernel
theorem dL_set_25 : decode cL_set 25 = .ok (.ireturn, 1) := by decide +kernel
theorem dL_number_0 : decode cL_number 0 = .ok (.aload 4, 2) := by decide +kernel
theorem dL_number_2 : decode cL_number 2 = .ok (.iconst 0, 1) := by decide +kernel
theorem dL_number_3 : decode cL_number 3 = .ok (.aload_n 0, 1) := by decide +kernel
theorem dL_number_4 : decode cL_number 4 = .ok (.iload_n 1, 1) := by decide +kernel
theorem dL_number_5 : decode cL_number 5 = .ok (.iload_n 2, 1) := by decide +kernel
theorem dL_number_6 : decode cL_number 6 = .ok (.iload_n 3, 1) := by decide +kernel
theorem dL_number_7 : decode cL_number 7 = .ok (.invokevirtual 23, 3) := by decide +kernel
theorem dL_number_10 : decode cL_number 10 = .ok (.lastore, 1) := by decide +kernel
theorem dL_number_11 : decode cL_number 11 = .ok (.goto 11, 3) := by decide +kernel
theorem dL_number_14 : decode cL_number 14 = .ok (.astore 5, 2) := by decide +kernel
theorem dL_number_16 : decode cL_number 16 = .ok (.iconst 1, 1) := by decide +kernel
theorem dL_number_17 : decode cL_number 17 = .ok (.ireturn, 1) := by decide +kernel
theorem dL_number_18 : decode cL_number 18 = .ok (.astore 5, 2) := by decide +kernel
theorem dL_number_20 : decode cL_number 20 = .ok (.iconst 2, 1) := by decide +kernel
theorem dL_number_21 : decode cL_number 21 = .ok (.ireturn, 1) := by decide +kernel
theorem dL_number_22 : decode cL_number 22 = .ok (.iconst 0, 1) := by decide +kernel
theorem dL_number_23 : decode cL_number 23 = .ok (.ireturn, 1) := by decide +kernel
theorem dL_length_0 : decode cL_length 0 = .ok (.aload_n 3, 1) := by decide +kernel
theorem dL_length_1 : decode cL_length 1 = .ok (.iconst 0, 1) := by decide +kernel
theorem dL_length_2 : decode cL_length 2 = .ok (.aload_n 0, 1) := by decide +kernel
theorem dL_length_3 : decode cL_length 3 = .ok (.iload_n 1, 1) := by decide +kernel
theorem dL_length_4 : decode cL_length 4 = .ok (.iload_n 2, 1) := by decide +kernel
theorem dL_length_5 : decode cL_length 5 = .ok (.invokevirtual 27, 3) := by decide +kernel
theorem dL_length_8 : decode cL_length 8 = .ok (.i2l, 1) := by decide +kernel
theorem dL_length_9 : decode cL_length 9 = .ok (.lastore, 1) := by decide +kernel
theorem dL_length_10 : decode cL_length 10 = .ok (.goto 11, 3) := by decide +kernel
theorem dL_length_13 : decode cL_length 13 = .ok (.astore 4, 2) := by decide +kernel
theorem dL_length_15 : decode cL_length 15 = .ok (.iconst 1, 1) := by decide +kernel
theorem dL_length_16 : decode cL_length 16 = .ok (.ireturn, 1) := by decide +kernel
theorem dL_length_17 : decode cL_length 17 = .ok (.astore 4, 2) := by decide +kernel
theorem dL_length_19 : decode cL_length 19 = .ok (.iconst 2, 1) := by decide +kernel
theorem dL_length_20 : decode cL_length 20 = .ok (.ireturn, 1) := by decide +kernel
theorem dL_length_21 : decode cL_length 21 = .ok (.iconst 0, 1) := by decide +kernel
theorem dL_length_22 : decode cL_length 22 = .ok (.ireturn, 1) := by decide +kernel
theorem dL_clear_0 : decode cL_clear 0 = .ok (.aload_n 3, 1) := by decide +kernel
theorem dL_clear_1 : decode cL_clear 1 = .ok (.iconst 0, 1) := by decide +kernel
theorem dL_clear_2 : decode cL_clear 2 = .ok (.aload_n 0, 1) := by decide +kernel
theorem dL_clear_3 : decode cL_clear 3 = .ok (.iload_n 1, 1) := by decide +kernel
theorem dL_clear_4 : decode cL_clear 4 = .ok (.iload_n 2, 1) := by decide +kernel
theorem dL_clear_5 : decode cL_clear 5 = .ok (.invokevirtual 31, 3) := by decide +kernel
theorem dL_clear_8 : decode cL_clear 8 = .ok (.i2l, 1) := by decide +kernel
theorem dL_clear_9 : decode cL_clear 9 = .ok (.lastore, 1) := by decide +kernel
theorem dL_clear_10 : decode cL_clear 10 = .ok (.goto 11, 3) := by decide +kernel
theorem dL_clear_13 : decode cL_clear 13 = .ok (.astore 4, 2) := by decide +kernel
theorem dL_clear_15 : decode cL_clear 15 = .ok (.iconst 1, 1) := by decide +kernel
theorem dL_clear_16 : decode cL_clear 16 = .ok (.ireturn, 1) := by decide +kernel
theorem dL_clear_17 : decode cL_clear 17 = .ok (.astore 4, 2) := by decide +kernel
theorem dL_clear_19 : decode cL_clear 19 = .ok (.iconst 2, 1) := by decide +kernel
theorem dL_clear_20 : decode cL_clear 20 = .ok (.ireturn, 1) := by decide +kernel
theorem dL_clear_21 : decode cL_clear 21 = .ok (.iconst 0, 1) := by decide +kernel
theorem dL_clear_22 : decode cL_clear 22 = .ok (.ireturn, 1) := by decide +kernel
theorem dL_repeat_0 : decode cL_repeat 0 = .ok (.aload 4, 2) := by decide +kernel
theorem dL_repeat_2 : decode cL_repeat 2 = .ok (.iconst 0, 1) := by decide +kernel
theorem dL_repeat_3 : decode cL_repeat 3 = .ok (.aload_n 0, 1) := by decide +kernel
theorem dL_repeat_4 : decode cL_repeat 4 = .ok (.iload_n 1, 1) := by decide +kernel
theorem dL_repeat_5 : decode cL_repeat 5 = .ok (.iload_n 2, 1) := by decide +kernel
theorem dL_repeat_6 : decode cL_repeat 6 = .ok (.iload_n 3, 1) := by decide +kernel
theorem dL_repeat_7 : decode cL_repeat 7 = .ok (.invokevirtual 34, 3) := by decide +kernel
theorem dL_repeat_10 : decode cL_repeat 10 = .ok (.i2l, 1) := by decide +kernel
theorem dL_repeat_11 : decode cL_repeat 11 = .ok (.lastore, 1) := by decide +kernel
theorem dL_repeat_12 : decode cL_repeat 12 = .ok (.goto 15, 3) := by decide +kernel
theorem dL_repeat_15 : decode cL_repeat 15 = .ok (.astore 5, 2) := by decide +kernel
theorem dL_repeat_17 : decode cL_repeat 17 = .ok (.iconst 1, 1) := by decide +kernel
theorem dL_repeat_18 : decode cL_repeat 18 = .ok (.ireturn, 1) := by decide +kernel
theorem dL_repeat_19 : decode cL_repeat 19 = .ok (.astore 5, 2) := by decide +kernel
theorem dL_repeat_21 : decode cL_repeat 21 = .ok (.iconst 2, 1) := by decide +kernel
theorem dL_repeat_22 : decode cL_repeat 22 = .ok (.ireturn, 1) := by decide +kernel
theorem dL_repeat_23 : decode cL_repeat 23 = .ok (.astore 5, 2) := by decide +kernel
theorem dL_repeat_25 : decode cL_repeat 25 = .ok (.iconst 3, 1) := by decide +kernel
theorem dL_repeat_26 : decode cL_repeat 26 = .ok (.ireturn, 1) := by decide +kernel
theorem dL_repeat_27 : decode cL_repeat 27 = .ok (.iconst 0, 1) := by decide +kernel
theorem dL_repeat_28 : decode cL_repeat 28 = .ok (.ireturn, 1) := by decide +kernel
theorem dL_reverse_0 : decode cL_reverse 0 = .ok (.aload_n 3, 1) := by decide +kernel
theorem dL_reverse_1 : decode cL_reverse 1 = .ok (.iconst 0, 1) := by decide +kernel
theorem dL_reverse_2 : decode cL_reverse 2 = .ok (.aload_n 0, 1) := by decide +kernel
theorem dL_reverse_3 : decode cL_reverse 3 = .ok (.iload_n 1, 1) := by decide +kernel
theorem dL_reverse_4 : decode cL_reverse 4 = .ok (.iload_n 2, 1) := by decide +kernel
theorem dL_reverse_5 : decode cL_reverse 5 = .ok (.invokevirtual 38, 3) := by decide +kernel
theorem dL_reverse_8 : decode cL_reverse 8 = .ok (.i2l, 1) := by decide +kernel
theorem dL_reverse_9 : decode cL_reverse 9 = .ok (.lastore, 1) := by decide +kernel
theorem dL_reverse_10 : decode cL_reverse 10 = .ok (.goto 11, 3) := by decide +kernel
theorem dL_reverse_13 : decode cL_reverse 13 = .ok (.astore 4, 2) := by decide +kernel
theorem dL_reverse_15 : decode cL_reverse 15 = .ok (.iconst 1, 1) := by decide +kernel
theorem dL_reverse_16 : decode cL_reverse 16 = .ok (.ireturn, 1) := by decide +kernel
theorem dL_reverse_17 : decode cL_reverse 17 = .ok (.astore 4, 2) := by decide +kernel
theorem dL_reverse_19 : decode cL_reverse 19 = .ok (.iconst 2, 1) := by decide +kernel
theorem dL_reverse_20 : decode cL_reverse 20 = .ok (.ireturn, 1) := by decide +kernel
theorem dL_reverse_21 : decode cL_reverse 21 = .ok (.iconst 0, 1) := by decide +kernel
theorem dL_reverse_22 : decode cL_reverse 22 = .ok (.ireturn, 1) := by decide +kernel
theorem dL_cut_0 : decode cL_cut 0 = .ok (.aload 5, 2) := by decide +kernel
theorem dL_cut_2 : decode cL_cut 2 = .ok (.iconst 0, 1) := by decide +kernel
theorem dL_cut_3 : decode cL_cut 3 = .ok (.aload_n 0, 1) := by decide +kernel
theorem dL_cut_4 : decode cL_cut 4 = .ok (.iload_n 1, 1) := by decide +kernel
theorem dL_cut_5 : decode cL_cut 5 = .ok (.iload_n 2, 1) := by decide +kernel
theorem dL_cut_6 : decode cL_cut 6 = .ok (.iload_n 3, 1) := by decide +kernel
theorem dL_cut_7 : decode cL_cut 7 = .ok (.iload 4, 2) := by decide +kernel
theorem dL_cut_9 : decode cL_cut 9 = .ok (.invokevirtual 41, 3) := by decide +kernel
theorem dL_cut_12 : decode cL_cut 12 = .ok (.i2l, 1) := by decide +kernel
theorem dL_cut_13 : decode cL_cut 13 = .ok (.lastore, 1) := by decide +kernel
theorem dL_cut_14 : decode cL_cut 14 = .ok (.goto 11, 3) := by decide +kernel
theorem dL_cut_17 : decode cL_cut 17 = .ok (.astore 6, 2) := by decide +kernel
theorem dL_cut_19 : decode cL_cut 19 = .ok (.iconst 1, 1) := by decide +kernel
theorem dL_cut_20 : decode cL_cut 20 = .ok (.ireturn, 1) := by decide +kernel
theorem dL_cut_21 : decode cL_cut 21 = .ok (.astore 6, 2) := by decide +kernel
theorem dL_cut_23 : decode cL_cut 23 = .ok (.iconst 2, 1) := by decide +kernel
theorem dL_cut_24 : decode cL_cut 24 = .ok (.ireturn, 1) := by decide +kernel
theorem dL_cut_25 : decode cL_cut 25 = .ok (.iconst 0, 1) := by decide +kernel
theorem dL_cut_26 : decode cL_cut 26 = .ok (.ireturn, 1) := by decide +kernel
theorem dL_convert_0 : decode cL_convert 0 = .ok (.aload 6, 2) := by decide +kernel
theorem dL_convert_2 : decode cL_convert 2 = .ok (.iconst 0, 1) := by decide +kernel
theorem dL_convert_3 : decode cL_convert 3 = .ok (.aload_n 0, 1) := by decide +kernel
theorem dL_convert_4 : decode cL_convert 4 = .ok (.iload_n 1, 1) := by decide +kernel
theorem dL_convert_5 : decode cL_convert 5 = .ok (.iload_n 2, 1) := by decide +kernel
theorem dL_convert_6 : decode cL_convert 6 = .ok (.iload_n 3, 1) := by decide +kernel
theorem dL_convert_7 : decode cL_convert 7 = .ok (.iload 4, 2) := by decide +kernel
theorem dL_convert_9 : decode cL_convert 9 = .ok (.iload 5, 2) := by decide +kernel
theorem dL_convert_11 : decode cL_convert 11 = .ok (.invokevirtual 45, 3) := by decide +kernel
theorem dL_convert_14 : decode cL_convert 14 = .ok (.i2l, 1) := by decide +kernel
theorem dL_convert_15 : decode cL_convert 15 = .ok (.lastore, 1) := by decide +kernel
theorem dL_convert_16 : decode cL_convert 16 = .ok (.goto 15, 3) := by decide +kernel
theorem dL_convert_19 : decode cL_convert 19 = .ok (.astore 7, 2) := by decide +kernel
theorem dL_convert_21 : decode cL_convert 21 = .ok (.iconst 1, 1) := by decide +kernel
theorem dL_convert_22 : decode cL_convert 22 = .ok (.ireturn, 1) := by decide +kernel
theorem dL_convert_23 : decode cL_convert 23 = .ok (.astore 7, 2) := by decide +kernel
theorem dL_convert_25 : decode cL_convert 25 = .ok (.iconst 2, 1) := by decide +kernel
theorem dL_convert_26 : decode cL_convert 26 = .ok (.ireturn, 1) := by decide +kernel
theorem dL_convert_27 : decode cL_convert 27 = .ok (.astore 7, 2) := by decide +kernel
theorem dL_convert_29 : decode cL_convert 29 = .ok (.iconst 3, 1) := by decide +kernel
theorem dL_convert_30 : decode cL_convert 30 = .ok (.ireturn, 1) := by decide +kernel
theorem dL_convert_31 : decode cL_convert 31 = .ok (.iconst 0, 1) := by decide +kernel
theorem dL_convert_32 : decode cL_convert 32 = .ok (.ireturn, 1) := by decide +kernel
theorem dL_span_0 : decode cL_span 0 = .ok (.aload 5, 2) := by decide +kernel
theorem dL_span_2 : decode cL_span 2 = .ok (.iconst 0, 1) := by decide +kernel
theorem dL_span_3 : decode cL_span 3 = .ok (.aload_n 0, 1) := by decide +kernel
theorem dL_span_4 : decode cL_span 4 = .ok (.iload_n 1, 1) := by decide +kernel
theorem dL_span_5 : decode cL_span 5 = .ok (.iload_n 2, 1) := by decide +kernel
theorem dL_span_6 : decode cL_span 6 = .ok (.iload_n 3, 1) := by decide +kernel
theorem dL_span_7 : decode cL_span 7 = .ok (.iload 4, 2) := by decide +kernel
theorem dL_span_9 : decode cL_span 9 = .ok (.invokevirtual 49, 3) := by decide +kernel
theorem dL_span_12 : decode cL_span 12 = .ok (.i2l, 1) := by decide +kernel
theorem dL_span_13 : decode cL_span 13 = .ok (.lastore, 1) := by decide +kernel
theorem dL_span_14 : decode cL_span 14 = .ok (.goto 11, 3) := by decide +kernel
theorem dL_span_17 : decode cL_span 17 = .ok (.astore 6, 2) := by decide +kernel
theorem dL_span_19 : decode cL_span 19 = .ok (.iconst 1, 1) := by decide +kernel
theorem dL_span_20 : decode cL_span 20 = .ok (.ireturn, 1) := by decide +kernel
theorem dL_span_21 : decode cL_span 21 = .ok (.astore 6, 2) := by decide +kernel
theorem dL_span_23 : decode cL_span 23 = .ok (.iconst 2, 1) := by decide +kernel
theorem dL_span_24 : decode cL_span 24 = .ok (.ireturn, 1) := by decide +kernel
theorem dL_span_25 : decode cL_span 25 = .ok (.iconst 0, 1) := by decide +kernel
theorem dL_span_26 : decode cL_span 26 = .ok (.ireturn, 1) := by decide +kernel
theorem dL_tells_0 : decode cL_tells 0 = .ok (.aload_n 3, 1) := by decide +kernel
theorem dL_tells_1 : decode cL_tells 1 = .ok (.iconst 0, 1) := by decide +kernel
theorem dL_tells_2 : decode cL_tells 2 = .ok (.aload_n 0, 1) := by decide +kernel
theorem dL_tells_3 : decode cL_tells 3 = .ok (.iload_n 1, 1) := by decide +kernel
theorem dL_tells_4 : decode cL_tells 4 = .ok (.iload_n 2, 1) := by decide +kernel
theorem dL_tells_5 : decode cL_tells 5 = .ok (.invokevirtual 53, 3) := by decide +kernel
theorem dL_tells_8 : decode cL_tells 8 = .ok (.i2l, 1) := by decide +kernel
theorem dL_tells_9 : decode cL_tells 9 = .ok (.lastore, 1) := by decide +kernel
theorem dL_tells_10 : decode cL_tells 10 = .ok (.goto 11, 3) := by decide +kernel
theorem dL_tells_13 : decode cL_tells 13 = .ok (.astore 4, 2) := by decide +kernel
theorem dL_tells_15 : decode cL_tells 15 = .ok (.iconst 1, 1) := by decide +kernel
theorem dL_tells_16 : decode cL_tells 16 = .ok (.ireturn, 1) := by decide +kernel
theorem dL_tells_17 : decode cL_tells 17 = .ok (.astore 4, 2) := by decide +kernel
theorem dL_tells_19 : decode cL_tells 19 = .ok (.iconst 2, 1) := by decide +kernel
theorem dL_tells_20 : decode cL_tells 20 = .ok (.ireturn, 1) := by decide +kernel
theorem dL_tells_21 : decode cL_tells 21 = .ok (.iconst 0, 1) := by decide +kernel
theorem dL_tells_22 : decode cL_tells 22 = .ok (.ireturn, 1) := by decide +kernel
theorem dL_fits_0 : decode cL_fits 0 = .ok (.aload_n 3, 1) := by decide +kernel
theorem dL_fits_1 : decode cL_fits 1 = .ok (.iconst 0, 1) := by decide +kernel
theorem dL_fits_2 : decode cL_fits 2 = .ok (.aload_n 0, 1) := by decide +kernel
theorem dL_fits_3 : decode cL_fits 3 = .ok (.iload_n 1, 1) := by decide +kernel
theorem dL_fits_4 : decode cL_fits 4 = .ok (.iload_n 2, 1) := by decide +kernel
theorem dL_fits_5 : decode cL_fits 5 = .ok (.invokevirtual 57, 3) := by decide +kernel
theorem dL_fits_8 : decode cL_fits 8 = .ok (.ifCond .eq 7, 3) := by decide +kernel
theorem dL_fits_11 : decode cL_fits 11 = .ok (.lconst 1, 1) := by decide +kernel
theorem dL_fits_12 : decode cL_fits 12 = .ok (.goto 4, 3) := by decide +kernel
theorem dL_fits_15 : decode cL_fits 15 = .ok (.lconst 0, 1) := by decide +kernel
theorem dL_fits_16 : decode cL_fits 16 = .ok (.lastore, 1) := by decide +kernel
theorem dL_fits_17 : decode cL_fits 17 = .ok (.goto 11, 3) := by decide +kernel
theorem dL_fits_20 : decode cL_fits 20 = .ok (.astore 4, 2) := by decide +kernel
theorem dL_fits_22 : decode cL_fits 22 = .ok (.iconst 1, 1) := by decide +kernel
theorem dL_fits_23 : decode cL_fits 23 = .ok (.ireturn, 1) := by decide +kernel
theorem dL_fits_24 : decode cL_fits 24 = .ok (.astore 4, 2) := by decide +kernel
theorem dL_fits_26 : decode cL_fits 26 = .ok (.iconst 2, 1) := by decide +kernel
theorem dL_fits_27 : decode cL_fits 27 = .ok (.ireturn, 1) := by decide +kernel
theorem dL_fits_28 : decode cL_fits 28 = .ok (.iconst 0, 1) := by decide +kernel
theorem dL_fits_29 : decode cL_fits 29 = .ok (.ireturn, 1) := by decide +kernel
theorem dL_asks_0 : decode cL_asks 0 = .ok (.aload 5, 2) := by decide +kernel
theorem dL_asks_2 : decode cL_asks 2 = .ok (.iconst 0, 1) := by decide +kernel
theorem dL_asks_3 : decode cL_asks 3 = .ok (.aload_n 0, 1) := by decide +kernel
theorem dL_asks_4 : decode cL_asks 4 = .ok (.iload_n 1, 1) := by decide +kernel
theorem dL_asks_5 : decode cL_asks 5 = .ok (.iload_n 2, 1) := by decide +kernel
theorem dL_asks_6 : decode cL_asks 6 = .ok (.iload_n 3, 1) := by decide +kernel
theorem dL_asks_7 : decode cL_asks 7 = .ok (.iload 4, 2) := by decide +kernel
theorem dL_asks_9 : decode cL_asks 9 = .ok (.invokevirtual 61, 3) := by decide +kernel
theorem dL_asks_12 : decode cL_asks 12 = .ok (.i2l, 1) := by decide +kernel
theorem dL_asks_13 : decode cL_asks 13 = .ok (.lastore, 1) := by decide +kernel
theorem dL_asks_14 : decode cL_asks 14 = .ok (.goto 15, 3) := by decide +kernel
theorem dL_asks_17 : decode cL_asks 17 = .ok (.astore 6, 2) := by decide +kernel
theorem dL_asks_19 : decode cL_asks 19 = .ok (.iconst 1, 1) := by decide +kernel
theorem dL_asks_20 : decode cL_asks 20 = .ok (.ireturn, 1) := by decide +kernel
theorem dL_asks_21 : decode cL_asks 21 = .ok (.astore 6, 2) := by decide +kernel
theorem dL_asks_23 : decode cL_asks 23 = .ok (.iconst 2, 1) := by decide +kernel
theorem dL_asks_24 : decode cL_asks 24 = .ok (.ireturn, 1) := by decide +kernel
theorem dL_asks_25 : decode cL_asks 25 = .ok (.astore 6, 2) := by decide +kernel
theorem dL_asks_27 : decode cL_asks 27 = .ok (.iconst 3, 1) := by decide +kernel
theorem dL_asks_28 : decode cL_asks 28 = .ok (.ireturn, 1) := by decide +kernel
theorem dL_asks_29 : decode cL_asks 29 = .ok (.iconst 0, 1) := by decide +kernel
theorem dL_asks_30 : decode cL_asks 30 = .ok (.ireturn, 1) := by decide +kernel
theorem dL_asksRows_0 : decode cL_asksRows 0 = .ok (.aload 5, 2) := by decide +kernel
theorem dL_asksRows_2 : decode cL_asksRows 2 = .ok (.iconst 0, 1) := by decide +kernel
theorem dL_asksRows_3 : decode cL_asksRows 3 = .ok (.aload_n 0, 1) := by decide +kernel
theorem dL_asksRows_4 : decode cL_asksRows 4 = .ok (.iload_n 1, 1) := by decide +kernel
theorem dL_asksRows_5 : decode cL_asksRows 5 = .ok (.iload_n 2, 1) := by decide +kernel
theorem dL_asksRows_6 : decode cL_asksRows 6 = .ok (.iload_n 3, 1) := by decide +kernel
theorem dL_asksRows_7 : decode cL_asksRows 7 = .ok (.iload 4, 2) := by decide +kernel
theorem dL_asksRows_9 : decode cL_asksRows 9 = .ok (.invokevirtual 65, 3) := by decide +kernel
theorem dL_asksRows_12 : decode cL_asksRows 12 = .ok (.i2l, 1) := by decide +kernel
theorem dL_asksRows_13 : decode cL_asksRows 13 = .ok (.lastore, 1) := by decide +kernel
theorem dL_asksRows_14 : decode cL_asksRows 14 = .ok (.goto 11, 3) := by decide +kernel
theorem dL_asksRows_17 : decode cL_asksRows 17 = .ok (.astore 6, 2) := by decide +kernel
theorem dL_asksRows_19 : decode cL_asksRows 19 = .ok (.iconst 1, 1) := by decide +kernel
theorem dL_asksRows_20 : decode cL_asksRows 20 = .ok (.ireturn, 1) := by decide +kernel
theorem dL_asksRows_21 : decode cL_asksRows 21 = .ok (.astore 6, 2) := by decide +kernel
theorem dL_asksRows_23 : decode cL_asksRows 23 = .ok (.iconst 2, 1) := by decide +kernel
theorem dL_asksRows_24 : decode cL_asksRows 24 = .ok (.ireturn, 1) := by decide +kernel
theorem dL_asksRows_25 : decode cL_asksRows 25 = .ok (.iconst 0, 1) := by decide +kernel
theorem dL_asksRows_26 : decode cL_asksRows 26 = .ok (.ireturn, 1) := by decide +kernel
theorem dL_refused_0 : decode cL_refused 0 = .ok (.aload 6, 2) := by decide +kernel
theorem dL_refused_2 : decode cL_refused 2 = .ok (.iconst 0, 1) := by decide +kernel
theorem dL_refused_3 : decode cL_refused 3 = .ok (.aload_n 0, 1) := by decide +kernel
theorem dL_refused_4 : decode cL_refused 4 = .ok (.iload_n 1, 1) := by decide +kernel
theorem dL_refused_5 : decode cL_refused 5 = .ok (.iload_n 2, 1) := by decide +kernel
theorem dL_refused_6 : decode cL_refused 6 = .ok (.iload_n 3, 1) := by decide +kernel
theorem dL_refused_7 : decode cL_refused 7 = .ok (.iload 4, 2) := by decide +kernel
theorem dL_refused_9 : decode cL_refused 9 = .ok (.iload 5, 2) := by decide +kernel
theorem dL_refused_11 : decode cL_refused 11 = .ok (.invokevirtual 68, 3) := by decide +kernel
theorem dL_refused_14 : decode cL_refused 14 = .ok (.i2l, 1) := by decide +kernel
theorem dL_refused_15 : decode cL_refused 15 = .ok (.lastore, 1) := by decide +kernel
theorem dL_refused_16 : decode cL_refused 16 = .ok (.goto 11, 3) := by decide +kernel
theorem dL_refused_19 : decode cL_refused 19 = .ok (.astore 7, 2) := by decide +kernel
theorem dL_refused_21 : decode cL_refused 21 = .ok (.iconst 1, 1) := by decide +kernel
theorem dL_refused_22 : decode cL_refused 22 = .ok (.ireturn, 1) := by decide +kernel
theorem dL_refused_23 : decode cL_refused 23 = .ok (.astore 7, 2) := by decide +kernel
theorem dL_refused_25 : decode cL_refused 25 = .ok (.iconst 2, 1) := by decide +kernel
theorem dL_refused_26 : decode cL_refused 26 = .ok (.ireturn, 1) := by decide +kernel
theorem dL_refused_27 : decode cL_refused 27 = .ok (.iconst 0, 1) := by decide +kernel
theorem dL_refused_28 : decode cL_refused 28 = .ok (.ireturn, 1) := by decide +kernel
theorem dL_common_0 : decode cL_common 0 = .ok (.aload 4, 2) := by decide +kernel
theorem dL_common_2 : decode cL_common 2 = .ok (.iconst 0, 1) := by decide +kernel
theorem dL_common_3 : decode cL_common 3 = .ok (.aload_n 0, 1) := by decide +kernel
theorem dL_common_4 : decode cL_common 4 = .ok (.iload_n 1, 1) := by decide +kernel
theorem dL_common_5 : decode cL_common 5 = .ok (.iload_n 2, 1) := by decide +kernel
theorem dL_common_6 : decode cL_common 6 = .ok (.iload_n 3, 1) := by decide +kernel
theorem dL_common_7 : decode cL_common 7 = .ok (.invokevirtual 72, 3) := by decide +kernel
theorem dL_common_10 : decode cL_common 10 = .ok (.i2l, 1) := by decide +kernel
theorem dL_common_11 : decode cL_common 11 = .ok (.lastore, 1) := by decide +kernel
theorem dL_common_12 : decode cL_common 12 = .ok (.goto 15, 3) := by decide +kernel
theorem dL_common_15 : decode cL_common 15 = .ok (.astore 5, 2) := by decide +kernel
theorem dL_common_17 : decode cL_common 17 = .ok (.iconst 1, 1) := by decide +kernel
theorem dL_common_18 : decode cL_common 18 = .ok (.ireturn, 1) := by decide +kernel
theorem dL_common_19 : decode cL_common 19 = .ok (.astore 5, 2) := by decide +kernel
theorem dL_common_21 : decode cL_common 21 = .ok (.iconst 2, 1) := by decide +kernel
theorem dL_common_22 : decode cL_common 22 = .ok (.ireturn, 1) := by decide +kernel
theorem dL_common_23 : decode cL_common 23 = .ok (.astore 5, 2) := by decide +kernel
theorem dL_common_25 : decode cL_common 25 = .ok (.iconst 3, 1) := by decide +kernel
theorem dL_common_26 : decode cL_common 26 = .ok (.ireturn, 1) := by decide +kernel
theorem dL_common_27 : decode cL_common 27 = .ok (.iconst 0, 1) := by decide +kernel
theorem dL_common_28 : decode cL_common 28 = .ok (.ireturn, 1) := by decide +kernel
theorem dL_rank_0 : decode cL_rank 0 = .ok (.aload 4, 2) := by decide +kernel
theorem dL_rank_2 : decode cL_rank 2 = .ok (.iconst 0, 1) := by decide +kernel
theorem dL_rank_3 : decode cL_rank 3 = .ok (.aload_n 0, 1) := by decide +kernel
theorem dL_rank_4 : decode cL_rank 4 = .ok (.iload_n 1, 1) := by decide +kernel
theorem dL_rank_5 : decode cL_rank 5 = .ok (.iload_n 2, 1) := by decide +kernel
theorem dL_rank_6 : decode cL_rank 6 = .ok (.iload_n 3, 1) := by decide +kernel
theorem dL_rank_7 : decode cL_rank 7 = .ok (.invokevirtual 75, 3) := by decide +kernel
theorem dL_rank_10 : decode cL_rank 10 = .ok (.i2l, 1) := by decide +kernel
theorem dL_rank_11 : decode cL_rank 11 = .ok (.lastore, 1) := by decide +kernel
theorem dL_rank_12 : decode cL_rank 12 = .ok (.goto 15, 3) := by decide +kernel
theorem dL_rank_15 : decode cL_rank 15 = .ok (.astore 5, 2) := by decide +kernel
theorem dL_rank_17 : decode cL_rank 17 = .ok (.iconst 1, 1) := by decide +kernel
theorem dL_rank_18 : decode cL_rank 18 = .ok (.ireturn, 1) := by decide +kernel
theorem dL_rank_19 : decode cL_rank 19 = .ok (.astore 5, 2) := by decide +kernel
theorem dL_rank_21 : decode cL_rank 21 = .ok (.iconst 2, 1) := by decide +kernel
theorem dL_rank_22 : decode cL_rank 22 = .ok (.ireturn, 1) := by decide +kernel
theorem dL_rank_23 : decode cL_rank 23 = .ok (.astore 5, 2) := by decide +kernel
theorem dL_rank_25 : decode cL_rank 25 = .ok (.iconst 3, 1) := by decide +kernel
theorem dL_rank_26 : decode cL_rank 26 = .ok (.ireturn, 1) := by decide +kernel
theorem dL_rank_27 : decode cL_rank 27 = .ok (.iconst 0, 1) := by decide +kernel
theorem dL_rank_28 : decode cL_rank 28 = .ok (.ireturn, 1) := by decide +kernel
theorem dL_sort_0 : decode cL_sort 0 = .ok (.aload_n 3, 1) := by decide +kernel
theorem dL_sort_1 : decode cL_sort 1 = .ok (.iconst 0, 1) := by decide +kernel
theorem dL_sort_2 : decode cL_sort 2 = .ok (.aload_n 0, 1) := by decide +kernel
theorem dL_sort_3 : decode cL_sort 3 = .ok (.iload_n 1, 1) := by decide +kernel
theorem dL_sort_4 : decode cL_sort 4 = .ok (.iload_n 2, 1) := by decide +kernel
theorem dL_sort_5 : decode cL_sort 5 = .ok (.invokevirtual 79, 3) := by decide +kernel
theorem dL_sort_8 : decode cL_sort 8 = .ok (.i2l, 1) := by decide +kernel
theorem dL_sort_9 : decode cL_sort 9 = .ok (.lastore, 1) := by decide +kernel
theorem dL_sort_10 : decode cL_sort 10 = .ok (.goto 7, 3) := by decide +kernel
theorem dL_sort_13 : decode cL_sort 13 = .ok (.astore 4, 2) := by decide +kernel
theorem dL_sort_15 : decode cL_sort 15 = .ok (.iconst 1, 1) := by decide +kernel
theorem dL_sort_16 : decode cL_sort 16 = .ok (.ireturn, 1) := by decide +kernel
theorem dL_sort_17 : decode cL_sort 17 = .ok (.iconst 0, 1) := by decide +kernel
theorem dL_sort_18 : decode cL_sort 18 = .ok (.ireturn, 1) := by decide +kernel
theorem dL_sorted_0 : decode cL_sorted 0 = .ok (.aload_n 2, 1) := by decide +kernel
theorem dL_sorted_1 : decode cL_sorted 1 = .ok (.iconst 0, 1) := by decide +kernel
theorem dL_sorted_2 : decode cL_sorted 2 = .ok (.aload_n 0, 1) := by decide +kernel
theorem dL_sorted_3 : decode cL_sorted 3 = .ok (.iload_n 1, 1) := by decide +kernel
theorem dL_sorted_4 : decode cL_sorted 4 = .ok (.invokevirtual 83, 3) := by decide +kernel
theorem dL_sorted_7 : decode cL_sorted 7 = .ok (.i2l, 1) := by decide +kernel
theorem dL_sorted_8 : decode cL_sorted 8 = .ok (.lastore, 1) := by decide +kernel
theorem dL_sorted_9 : decode cL_sorted 9 = .ok (.goto 6, 3) := by decide +kernel
theorem dL_sorted_12 : decode cL_sorted 12 = .ok (.astore_n 3, 1) := by decide +kernel
theorem dL_sorted_13 : decode cL_sorted 13 = .ok (.iconst 1, 1) := by decide +kernel
theorem dL_sorted_14 : decode cL_sorted 14 = .ok (.ireturn, 1) := by decide +kernel
theorem dL_sorted_15 : decode cL_sorted 15 = .ok (.iconst 0, 1) := by decide +kernel
theorem dL_sorted_16 : decode cL_sorted 16 = .ok (.ireturn, 1) := by decide +kernel
theorem dL_ending_0 : decode cL_ending 0 = .ok (.aload 5, 2) := by decide +kernel
theorem dL_ending_2 : decode cL_ending 2 = .ok (.iconst 0, 1) := by decide +kernel
theorem dL_ending_3 : decode cL_ending 3 = .ok (.aload_n 0, 1) := by decide +kernel
theorem dL_ending_4 : decode cL_ending 4 = .ok (.iload_n 1, 1) := by decide +kernel
theorem dL_ending_5 : decode cL_ending 5 = .ok (.iload_n 2, 1) := by decide +kernel
theorem dL_ending_6 : decode cL_ending 6 = .ok (.iload_n 3, 1) := by decide +kernel
theorem dL_ending_7 : decode cL_ending 7 = .ok (.iload 4, 2) := by decide +kernel
theorem dL_ending_9 : decode cL_ending 9 = .ok (.invokevirtual 87, 3) := by decide +kernel
theorem dL_ending_12 : decode cL_ending 12 = .ok (.i2l, 1) := by decide +kernel
theorem dL_ending_13 : decode cL_ending 13 = .ok (.lastore, 1) := by decide +kernel
theorem dL_ending_14 : decode cL_ending 14 = .ok (.goto 11, 3) := by decide +kernel
theorem dL_ending_17 : decode cL_ending 17 = .ok (.astore 6, 2) := by decide +kernel
theorem dL_ending_19 : decode cL_ending 19 = .ok (.iconst 1, 1) := by decide +kernel
theorem dL_ending_20 : decode cL_ending 20 = .ok (.ireturn, 1) := by decide +kernel
theorem dL_ending_21 : decode cL_ending 21 = .ok (.astore 6, 2) := by decide +kernel
theorem dL_ending_23 : decode cL_ending 23 = .ok (.iconst 2, 1) := by decide +kernel
theorem dL_ending_24 : decode cL_ending 24 = .ok (.ireturn, 1) := by decide +kernel
theorem dL_ending_25 : decode cL_ending 25 = .ok (.iconst 0, 1) := by decide +kernel
theorem dL_ending_26 : decode cL_ending 26 = .ok (.ireturn, 1) := by decide +kernel
theorem dL_distinct_0 : decode cL_distinct 0 = .ok (.aload_n 3, 1) := by decide +kernel
theorem dL_distinct_1 : decode cL_distinct 1 = .ok (.iconst 0, 1) := by decide +kernel
theorem dL_distinct_2 : decode cL_distinct 2 = .ok (.aload_n 0, 1) := by decide +kernel
theorem dL_distinct_3 : decode cL_distinct 3 = .ok (.iload_n 1, 1) := by decide +kernel
theorem dL_distinct_4 : decode cL_distinct 4 = .ok (.iload_n 2, 1) := by decide +kernel
theorem dL_distinct_5 : decode cL_distinct 5 = .ok (.invokevirtual 90, 3) := by decide +kernel
theorem dL_distinct_8 : decode cL_distinct 8 = .ok (.i2l, 1) := by decide +kernel
theorem dL_distinct_9 : decode cL_distinct 9 = .ok (.lastore, 1) := by decide +kernel
theorem dL_distinct_10 : decode cL_distinct 10 = .ok (.goto 11, 3) := by decide +kernel
theorem dL_distinct_13 : decode cL_distinct 13 = .ok (.astore 4, 2) := by decide +kernel
theorem dL_distinct_15 : decode cL_distinct 15 = .ok (.iconst 1, 1) := by decide +kernel
theorem dL_distinct_16 : decode cL_distinct 16 = .ok (.ireturn, 1) := by decide +kernel
theorem dL_distinct_17 : decode cL_distinct 17 = .ok (.astore 4, 2) := by decide +kernel
theorem dL_distinct_19 : decode cL_distinct 19 = .ok (.iconst 2, 1) := by decide +kernel
theorem dL_distinct_20 : decode cL_distinct 20 = .ok (.ireturn, 1) := by decide +kernel
theorem dL_distinct_21 : decode cL_distinct 21 = .ok (.iconst 0, 1) := by decide +kernel
theorem dL_distinct_22 : decode cL_distinct 22 = .ok (.ireturn, 1) := by decide +kernel
theorem dL_longest_0 : decode cL_longest 0 = .ok (.aload_n 3, 1) := by decide +kernel
theorem dL_longest_1 : decode cL_longest 1 = .ok (.iconst 0, 1) := by decide +kernel
theorem dL_longest_2 : decode cL_longest 2 = .ok (.aload_n 0, 1) := by decide +kernel
theorem dL_longest_3 : decode cL_longest 3 = .ok (.iload_n 1, 1) := by decide +kernel
theorem dL_longest_4 : decode cL_longest 4 = .ok (.iload_n 2, 1) := by decide +kernel
theorem dL_longest_5 : decode cL_longest 5 = .ok (.invokevirtual 93, 3) := by decide +kernel
theorem dL_longest_8 : decode cL_longest 8 = .ok (.i2l, 1) := by decide +kernel
theorem dL_longest_9 : decode cL_longest 9 = .ok (.lastore, 1) := by decide +kernel
theorem dL_longest_10 : decode cL_longest 10 = .ok (.goto 11, 3) := by decide +kernel
theorem dL_longest_13 : decode cL_longest 13 = .ok (.astore 4, 2) := by decide +kernel
theorem dL_longest_15 : decode cL_longest 15 = .ok (.iconst 1, 1) := by decide +kernel
theorem dL_longest_16 : decode cL_longest 16 = .ok (.ireturn, 1) := by decide +kernel
theorem dL_longest_17 : decode cL_longest 17 = .ok (.astore 4, 2) := by decide +kernel
theorem dL_longest_19 : decode cL_longest 19 = .ok (.iconst 2, 1) := by decide +kernel
theorem dL_longest_20 : decode cL_longest 20 = .ok (.ireturn, 1) := by decide +kernel
theorem dL_longest_21 : decode cL_longest 21 = .ok (.iconst 0, 1) := by decide +kernel
theorem dL_longest_22 : decode cL_longest 22 = .ok (.ireturn, 1) := by decide +kernel
theorem dL_occurs_0 : decode cL_occurs 0 = .ok (.aload 4, 2) := by decide +kernel
theorem dL_occurs_2 : decode cL_occurs 2 = .ok (.iconst 0, 1) := by decide +kernel
theorem dL_occurs_3 : decode cL_occurs 3 = .ok (.aload_n 0, 1) := by decide +kernel
theorem dL_occurs_4 : decode cL_occurs 4 = .ok (.iload_n 1, 1) := by decide +kernel
theorem dL_occurs_5 : decode cL_occurs 5 = .ok (.iload_n 2, 1) := by decide +kernel
theorem dL_occurs_6 : decode cL_occurs 6 = .ok (.iload_n 3, 1) := by decide +kernel
theorem dL_occurs_7 : decode cL_occurs 7 = .ok (.invokevirtual 96, 3) := by decide +kernel
theorem dL_occurs_10 : decode cL_occurs 10 = .ok (.i2l, 1) := by decide +kernel
theorem dL_occurs_11 : decode cL_occurs 11 = .ok (.lastore, 1) := by decide +kernel
theorem dL_occurs_12 : decode cL_occurs 12 = .ok (.goto 15, 3) := by decide +kernel
theorem dL_occurs_15 : decode cL_occurs 15 = .ok (.astore 5, 2) := by decide +kernel
theorem dL_occurs_17 : decode cL_occurs 17 = .ok (.iconst 1, 1) := by decide +kernel
theorem dL_occurs_18 : decode cL_occurs 18 = .ok (.ireturn, 1) := by decide +kernel
theorem dL_occurs_19 : decode cL_occurs 19 = .ok (.astore 5, 2) := by decide +kernel
theorem dL_occurs_21 : decode cL_occurs 21 = .ok (.iconst 2, 1) := by decide +kernel
theorem dL_occurs_22 : decode cL_occurs 22 = .ok (.ireturn, 1) := by decide +kernel
theorem dL_occurs_23 : decode cL_occurs 23 = .ok (.astore 5, 2) := by decide +kernel
theorem dL_occurs_25 : decode cL_occurs 25 = .ok (.iconst 3, 1) := by decide +kernel
theorem dL_occurs_26 : decode cL_occurs 26 = .ok (.ireturn, 1) := by decide +kernel
theorem dL_occurs_27 : decode cL_occurs 27 = .ok (.iconst 0, 1) := by decide +kernel
theorem dL_occurs_28 : decode cL_occurs 28 = .ok (.ireturn, 1) := by decide +kernel
theorem dL_isPeriod_0 : decode cL_isPeriod 0 = .ok (.aload 4, 2) := by decide +kernel
theorem dL_isPeriod_2 : decode cL_isPeriod 2 = .ok (.iconst 0, 1) := by decide +kernel
theorem dL_isPeriod_3 : decode cL_isPeriod 3 = .ok (.aload_n 0, 1) := by decide +kernel
theorem dL_isPeriod_4 : decode cL_isPeriod 4 = .ok (.iload_n 1, 1) := by decide +kernel
theorem dL_isPeriod_5 : decode cL_isPeriod 5 = .ok (.iload_n 2, 1) := by decide +kernel
theorem dL_isPeriod_6 : decode cL_isPeriod 6 = .ok (.iload_n 3, 1) := by decide +kernel
theorem dL_isPeriod_7 : decode cL_isPeriod 7 = .ok (.invokevirtual 99, 3) := by decide +kernel
theorem dL_isPeriod_10 : decode cL_isPeriod 10 = .ok (.ifCond .eq 7, 3) := by decide +kernel
theorem dL_isPeriod_13 : decode cL_isPeriod 13 = .ok (.lconst 1, 1) := by decide +kernel
theorem dL_isPeriod_14 : decode cL_isPeriod 14 = .ok (.goto 4, 3) := by decide +kernel
theorem dL_isPeriod_17 : decode cL_isPeriod 17 = .ok (.lconst 0, 1) := by decide +kernel
theorem dL_isPeriod_18 : decode cL_isPeriod 18 = .ok (.lastore, 1) := by decide +kernel
theorem dL_isPeriod_19 : decode cL_isPeriod 19 = .ok (.goto 11, 3) := by decide +kernel
theorem dL_isPeriod_22 : decode cL_isPeriod 22 = .ok (.astore 5, 2) := by decide +kernel
theorem dL_isPeriod_24 : decode cL_isPeriod 24 = .ok (.iconst 1, 1) := by decide +kernel
theorem dL_isPeriod_25 : decode cL_isPeriod 25 = .ok (.ireturn, 1) := by decide +kernel
theorem dL_isPeriod_26 : decode cL_isPeriod 26 = .ok (.astore 5, 2) := by decide +kernel
theorem dL_isPeriod_28 : decode cL_isPeriod 28 = .ok (.iconst 2, 1) := by decide +kernel
theorem dL_isPeriod_29 : decode cL_isPeriod 29 = .ok (.ireturn, 1) := by decide +kernel
theorem dL_isPeriod_30 : decode cL_isPeriod 30 = .ok (.iconst 0, 1) := by decide +kernel
theorem dL_isPeriod_31 : decode cL_isPeriod 31 = .ok (.ireturn, 1) := by decide +kernel
theorem dL_period_0 : decode cL_period 0 = .ok (.aload_n 3, 1) := by decide +kernel
theorem dL_period_1 : decode cL_period 1 = .ok (.iconst 0, 1) := by decide +kernel
theorem dL_period_2 : decode cL_period 2 = .ok (.aload_n 0, 1) := by decide +kernel
theorem dL_period_3 : decode cL_period 3 = .ok (.iload_n 1, 1) := by decide +kernel
theorem dL_period_4 : decode cL_period 4 = .ok (.iload_n 2, 1) := by decide +kernel
theorem dL_period_5 : decode cL_period 5 = .ok (.invokevirtual 103, 3) := by decide +kernel
theorem dL_period_8 : decode cL_period 8 = .ok (.i2l, 1) := by decide +kernel
theorem dL_period_9 : decode cL_period 9 = .ok (.lastore, 1) := by decide +kernel
theorem dL_period_10 : decode cL_period 10 = .ok (.goto 11, 3) := by decide +kernel
theorem dL_period_13 : decode cL_period 13 = .ok (.astore 4, 2) := by decide +kernel
theorem dL_period_15 : decode cL_period 15 = .ok (.iconst 1, 1) := by decide +kernel
theorem dL_period_16 : decode cL_period 16 = .ok (.ireturn, 1) := by decide +kernel
theorem dL_period_17 : decode cL_period 17 = .ok (.astore 4, 2) := by decide +kernel
theorem dL_period_19 : decode cL_period 19 = .ok (.iconst 2, 1) := by decide +kernel
theorem dL_period_20 : decode cL_period 20 = .ok (.ireturn, 1) := by decide +kernel
theorem dL_period_21 : decode cL_period 21 = .ok (.iconst 0, 1) := by decide +kernel
theorem dL_period_22 : decode cL_period 22 = .ok (.ireturn, 1) := by decide +kernel
theorem dL_root_0 : decode cL_root 0 = .ok (.aload_n 3, 1) := by decide +kernel
theorem dL_root_1 : decode cL_root 1 = .ok (.iconst 0, 1) := by decide +kernel
theorem dL_root_2 : decode cL_root 2 = .ok (.aload_n 0, 1) := by decide +kernel
theorem dL_root_3 : decode cL_root 3 = .ok (.iload_n 1, 1) := by decide +kernel
theorem dL_root_4 : decode cL_root 4 = .ok (.iload_n 2, 1) := by decide +kernel
theorem dL_root_5 : decode cL_root 5 = .ok (.invokevirtual 106, 3) := by decide +kernel
theorem dL_root_8 : decode cL_root 8 = .ok (.i2l, 1) := by decide +kernel
theorem dL_root_9 : decode cL_root 9 = .ok (.lastore, 1) := by decide +kernel
theorem dL_root_10 : decode cL_root 10 = .ok (.goto 11, 3) := by decide +kernel
theorem dL_root_13 : decode cL_root 13 = .ok (.astore 4, 2) := by decide +kernel
theorem dL_root_15 : decode cL_root 15 = .ok (.iconst 1, 1) := by decide +kernel
theorem dL_root_16 : decode cL_root 16 = .ok (.ireturn, 1) := by decide +kernel
theorem dL_root_17 : decode cL_root 17 = .ok (.astore 4, 2) := by decide +kernel
theorem dL_root_19 : decode cL_root 19 = .ok (.iconst 2, 1) := by decide +kernel
theorem dL_root_20 : decode cL_root 20 = .ok (.ireturn, 1) := by decide +kernel
theorem dL_root_21 : decode cL_root 21 = .ok (.iconst 0, 1) := by decide +kernel
theorem dL_root_22 : decode cL_root 22 = .ok (.ireturn, 1) := by decide +kernel
theorem dL_rotation_0 : decode cL_rotation 0 = .ok (.aload 4, 2) := by decide +kernel
theorem dL_rotation_2 : decode cL_rotation 2 = .ok (.iconst 0, 1) := by decide +kernel
theorem dL_rotation_3 : decode cL_rotation 3 = .ok (.aload_n 0, 1) := by decide +kernel
theorem dL_rotation_4 : decode cL_rotation 4 = .ok (.iload_n 1, 1) := by decide +kernel
theorem dL_rotation_5 : decode cL_rotation 5 = .ok (.iload_n 2, 1) := by decide +kernel
theorem dL_rotation_6 : decode cL_rotation 6 = .ok (.iload_n 3, 1) := by decide +kernel
theorem dL_rotation_7 : decode cL_rotation 7 = .ok (.invokevirtual 109, 3) := by decide +kernel
theorem dL_rotation_10 : decode cL_rotation 10 = .ok (.i2l, 1) := by decide +kernel
theorem dL_rotation_11 : decode cL_rotation 11 = .ok (.lastore, 1) := by decide +kernel
theorem dL_rotation_12 : decode cL_rotation 12 = .ok (.goto 11, 3) := by decide +kernel
theorem dL_rotation_15 : decode cL_rotation 15 = .ok (.astore 5, 2) := by decide +kernel
theorem dL_rotation_17 : decode cL_rotation 17 = .ok (.iconst 1, 1) := by decide +kernel
theorem dL_rotation_18 : decode cL_rotation 18 = .ok (.ireturn, 1) := by decide +kernel
theorem dL_rotation_19 : decode cL_rotation 19 = .ok (.astore 5, 2) := by decide +kernel
theorem dL_rotation_21 : decode cL_rotation 21 = .ok (.iconst 2, 1) := by decide +kernel
theorem dL_rotation_22 : decode cL_rotation 22 = .ok (.ireturn, 1) := by decide +kernel
theorem dL_rotation_23 : decode cL_rotation 23 = .ok (.iconst 0, 1) := by decide +kernel
theorem dL_rotation_24 : decode cL_rotation 24 = .ok (.ireturn, 1) := by decide +kernel
theorem dL_factors_0 : decode cL_factors 0 = .ok (.aload 4, 2) := by decide +kernel
theorem dL_factors_2 : decode cL_factors 2 = .ok (.iconst 0, 1) := by decide +kernel
theorem dL_factors_3 : decode cL_factors 3 = .ok (.aload_n 0, 1) := by decide +kernel
theorem dL_factors_4 : decode cL_factors 4 = .ok (.iload_n 1, 1) := by decide +kernel
theorem dL_factors_5 : decode cL_factors 5 = .ok (.iload_n 2, 1) := by decide +kernel
theorem dL_factors_6 : decode cL_factors 6 = .ok (.iload_n 3, 1) := by decide +kernel
theorem dL_factors_7 : decode cL_factors 7 = .ok (.invokevirtual 112, 3) := by decide +kernel
theorem dL_factors_10 : decode cL_factors 10 = .ok (.i2l, 1) := by decide +kernel
theorem dL_factors_11 : decode cL_factors 11 = .ok (.lastore, 1) := by decide +kernel
theorem dL_factors_12 : decode cL_factors 12 = .ok (.goto 11, 3) := by decide +kernel
theorem dL_factors_15 : decode cL_factors 15 = .ok (.astore 5, 2) := by decide +kernel
theorem dL_factors_17 : decode cL_factors 17 = .ok (.iconst 1, 1) := by decide +kernel
theorem dL_factors_18 : decode cL_factors 18 = .ok (.ireturn, 1) := by decide +kernel
theorem dL_factors_19 : decode cL_factors 19 = .ok (.astore 5, 2) := by decide +kernel
theorem dL_factors_21 : decode cL_factors 21 = .ok (.iconst 2, 1) := by decide +kernel
theorem dL_factors_22 : decode cL_factors 22 = .ok (.ireturn, 1) := by decide +kernel
theorem dL_factors_23 : decode cL_factors 23 = .ok (.iconst 0, 1) := by decide +kernel
theorem dL_factors_24 : decode cL_factors 24 = .ok (.ireturn, 1) := by decide +kernel
theorem dL_factor_0 : decode cL_factor 0 = .ok (.aload 5, 2) := by decide +kernel
theorem dL_factor_2 : decode cL_factor 2 = .ok (.iconst 0, 1) := by decide +kernel
theorem dL_factor_3 : decode cL_factor 3 = .ok (.aload_n 0, 1) := by decide +kernel
theorem dL_factor_4 : decode cL_factor 4 = .ok (.iload_n 1, 1) := by decide +kernel
theorem dL_factor_5 : decode cL_factor 5 = .ok (.iload_n 2, 1) := by decide +kernel
theorem dL_factor_6 : decode cL_factor 6 = .ok (.iload_n 3, 1) := by decide +kernel
theorem dL_factor_7 : decode cL_factor 7 = .ok (.iload 4, 2) := by decide +kernel
theorem dL_factor_9 : decode cL_factor 9 = .ok (.invokevirtual 115, 3) := by decide +kernel
theorem dL_factor_12 : decode cL_factor 12 = .ok (.i2l, 1) := by decide +kernel
theorem dL_factor_13 : decode cL_factor 13 = .ok (.lastore, 1) := by decide +kernel
theorem dL_factor_14 : decode cL_factor 14 = .ok (.goto 11, 3) := by decide +kernel
theorem dL_factor_17 : decode cL_factor 17 = .ok (.astore 6, 2) := by decide +kernel
theorem dL_factor_19 : decode cL_factor 19 = .ok (.iconst 1, 1) := by decide +kernel
theorem dL_factor_20 : decode cL_factor 20 = .ok (.ireturn, 1) := by decide +kernel
theorem dL_factor_21 : decode cL_factor 21 = .ok (.astore 6, 2) := by decide +kernel
theorem dL_factor_23 : decode cL_factor 23 = .ok (.iconst 2, 1) := by decide +kernel
theorem dL_factor_24 : decode cL_factor 24 = .ok (.ireturn, 1) := by decide +kernel
theorem dL_factor_25 : decode cL_factor 25 = .ok (.iconst 0, 1) := by decide +kernel
theorem dL_factor_26 : decode cL_factor 26 = .ok (.ireturn, 1) := by decide +kernel
theorem dL_share_0 : decode cL_share 0 = .ok (.aload_n 2, 1) := by decide +kernel
theorem dL_share_1 : decode cL_share 1 = .ok (.iconst 0, 1) := by decide +kernel
theorem dL_share_2 : decode cL_share 2 = .ok (.aload_n 0, 1) := by decide +kernel
theorem dL_share_3 : decode cL_share 3 = .ok (.iload_n 1, 1) := by decide +kernel
theorem dL_share_4 : decode cL_share 4 = .ok (.invokevirtual 118, 3) := by decide +kernel
theorem dL_share_7 : decode cL_share 7 = .ok (.f2d, 1) := by decide +kernel
theorem dL_share_8 : decode cL_share 8 = .ok (.dastore, 1) := by decide +kernel
theorem dL_share_9 : decode cL_share 9 = .ok (.goto 9, 3) := by decide +kernel
theorem dL_share_12 : decode cL_share 12 = .ok (.astore_n 3, 1) := by decide +kernel
theorem dL_share_13 : decode cL_share 13 = .ok (.iconst 1, 1) := by decide +kernel
theorem dL_share_14 : decode cL_share 14 = .ok (.ireturn, 1) := by decide +kernel
theorem dL_share_15 : decode cL_share 15 = .ok (.astore_n 3, 1) := by decide +kernel
theorem dL_share_16 : decode cL_share 16 = .ok (.iconst 2, 1) := by decide +kernel
theorem dL_share_17 : decode cL_share 17 = .ok (.ireturn, 1) := by decide +kernel
theorem dL_share_18 : decode cL_share 18 = .ok (.iconst 0, 1) := by decide +kernel
theorem dL_share_19 : decode cL_share 19 = .ok (.ireturn, 1) := by decide +kernel
theorem dL_mean_0 : decode cL_mean 0 = .ok (.aload_n 2, 1) := by decide +kernel
theorem dL_mean_1 : decode cL_mean 1 = .ok (.iconst 0, 1) := by decide +kernel
theorem dL_mean_2 : decode cL_mean 2 = .ok (.aload_n 0, 1) := by decide +kernel
theorem dL_mean_3 : decode cL_mean 3 = .ok (.iload_n 1, 1) := by decide +kernel
theorem dL_mean_4 : decode cL_mean 4 = .ok (.invokevirtual 122, 3) := by decide +kernel
theorem dL_mean_7 : decode cL_mean 7 = .ok (.dastore, 1) := by decide +kernel
theorem dL_mean_8 : decode cL_mean 8 = .ok (.goto 6, 3) := by decide +kernel
theorem dL_mean_11 : decode cL_mean 11 = .ok (.astore_n 3, 1) := by decide +kernel
theorem dL_mean_12 : decode cL_mean 12 = .ok (.iconst 1, 1) := by decide +kernel
theorem dL_mean_13 : decode cL_mean 13 = .ok (.ireturn, 1) := by decide +kernel
theorem dL_mean_14 : decode cL_mean 14 = .ok (.iconst 0, 1) := by decide +kernel
theorem dL_mean_15 : decode cL_mean 15 = .ok (.ireturn, 1) := by decide +kernel
theorem dL_isTrue_0 : decode cL_isTrue 0 = .ok (.aload 5, 2) := by decide +kernel
theorem dL_isTrue_2 : decode cL_isTrue 2 = .ok (.iconst 0, 1) := by decide +kernel
theorem dL_isTrue_3 : decode cL_isTrue 3 = .ok (.aload_n 0, 1) := by decide +kernel
theorem dL_isTrue_4 : decode cL_isTrue 4 = .ok (.iload_n 1, 1) := by decide +kernel
theorem dL_isTrue_5 : decode cL_isTrue 5 = .ok (.iload_n 2, 1) := by decide +kernel
theorem dL_isTrue_6 : decode cL_isTrue 6 = .ok (.iload_n 3, 1) := by decide +kernel
theorem dL_isTrue_7 : decode cL_isTrue 7 = .ok (.iload 4, 2) := by decide +kernel
theorem dL_isTrue_9 : decode cL_isTrue 9 = .ok (.invokevirtual 126, 3) := by decide +kernel
theorem dL_isTrue_12 : decode cL_isTrue 12 = .ok (.ifCond .eq 7, 3) := by decide +kernel
theorem dL_isTrue_15 : decode cL_isTrue 15 = .ok (.lconst 1, 1) := by decide +kernel
theorem dL_isTrue_16 : decode cL_isTrue 16 = .ok (.goto 4, 3) := by decide +kernel
theorem dL_isTrue_19 : decode cL_isTrue 19 = .ok (.lconst 0, 1) := by decide +kernel
theorem dL_isTrue_20 : decode cL_isTrue 20 = .ok (.lastore, 1) := by decide +kernel
theorem dL_isTrue_21 : decode cL_isTrue 21 = .ok (.goto 15, 3) := by decide +kernel
theorem dL_isTrue_24 : decode cL_isTrue 24 = .ok (.astore 6, 2) := by decide +kernel
theorem dL_isTrue_26 : decode cL_isTrue 26 = .ok (.iconst 1, 1) := by decide +kernel
theorem dL_isTrue_27 : decode cL_isTrue 27 = .ok (.ireturn, 1) := by decide +kernel
theorem dL_isTrue_28 : decode cL_isTrue 28 = .ok (.astore 6, 2) := by decide +kernel
theorem dL_isTrue_30 : decode cL_isTrue 30 = .ok (.iconst 2, 1) := by decide +kernel
theorem dL_isTrue_31 : decode cL_isTrue 31 = .ok (.ireturn, 1) := by decide +kernel
theorem dL_isTrue_32 : decode cL_isTrue 32 = .ok (.astore 6, 2) := by decide +kernel
theorem dL_isTrue_34 : decode cL_isTrue 34 = .ok (.iconst 3, 1) := by decide +kernel
theorem dL_isTrue_35 : decode cL_isTrue 35 = .ok (.ireturn, 1) := by decide +kernel
theorem dL_isTrue_36 : decode cL_isTrue 36 = .ok (.iconst 0, 1) := by decide +kernel
theorem dL_isTrue_37 : decode cL_isTrue 37 = .ok (.ireturn, 1) := by decide +kernel
theorem dL_rowIsTrue_0 : decode cL_rowIsTrue 0 = .ok (.aload 4, 2) := by decide +kernel
theorem dL_rowIsTrue_2 : decode cL_rowIsTrue 2 = .ok (.iconst 0, 1) := by decide +kernel
theorem dL_rowIsTrue_3 : decode cL_rowIsTrue 3 = .ok (.aload_n 0, 1) := by decide +kernel
theorem dL_rowIsTrue_4 : decode cL_rowIsTrue 4 = .ok (.iload_n 1, 1) := by decide +kernel
theorem dL_rowIsTrue_5 : decode cL_rowIsTrue 5 = .ok (.iload_n 2, 1) := by decide +kernel
theorem dL_rowIsTrue_6 : decode cL_rowIsTrue 6 = .ok (.iload_n 3, 1) := by decide +kernel
theorem dL_rowIsTrue_7 : decode cL_rowIsTrue 7 = .ok (.invokevirtual 130, 3) := by decide +kernel
theorem dL_rowIsTrue_10 : decode cL_rowIsTrue 10 = .ok (.ifCond .eq 7, 3) := by decide +kernel
theorem dL_rowIsTrue_13 : decode cL_rowIsTrue 13 = .ok (.lconst 1, 1) := by decide +kernel
theorem dL_rowIsTrue_14 : decode cL_rowIsTrue 14 = .ok (.goto 4, 3) := by decide +kernel
theorem dL_rowIsTrue_17 : decode cL_rowIsTrue 17 = .ok (.lconst 0, 1) := by decide +kernel
theorem dL_rowIsTrue_18 : decode cL_rowIsTrue 18 = .ok (.lastore, 1) := by decide +kernel
theorem dL_rowIsTrue_19 : decode cL_rowIsTrue 19 = .ok (.goto 11, 3) := by decide +kernel
theorem dL_rowIsTrue_22 : decode cL_rowIsTrue 22 = .ok (.astore 5, 2) := by decide +kernel
theorem dL_rowIsTrue_24 : decode cL_rowIsTrue 24 = .ok (.iconst 1, 1) := by decide +kernel
theorem dL_rowIsTrue_25 : decode cL_rowIsTrue 25 = .ok (.ireturn, 1) := by decide +kernel
theorem dL_rowIsTrue_26 : decode cL_rowIsTrue 26 = .ok (.astore 5, 2) := by decide +kernel
theorem dL_rowIsTrue_28 : decode cL_rowIsTrue 28 = .ok (.iconst 2, 1) := by decide +kernel
theorem dL_rowIsTrue_29 : decode cL_rowIsTrue 29 = .ok (.ireturn, 1) := by decide +kernel
theorem dL_rowIsTrue_30 : decode cL_rowIsTrue 30 = .ok (.iconst 0, 1) := by decide +kernel
theorem dL_rowIsTrue_31 : decode cL_rowIsTrue 31 = .ok (.ireturn, 1) := by decide +kernel

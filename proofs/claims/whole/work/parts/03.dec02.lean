theorem dX7_divideByR_32 : decode cX7_divideByR 32 = .ok (.iconst 3, 1) := by decide +kernel
theorem dX7_divideByR_33 : decode cX7_divideByR 33 = .ok (.iadd, 1) := by decide +kernel
theorem dX7_divideByR_34 : decode cX7_divideByR 34 = .ok (.laload, 1) := by decide +kernel
theorem dX7_divideByR_35 : decode cX7_divideByR 35 = .ok (.lstore 8, 2) := by decide +kernel
theorem dX7_divideByR_37 : decode cX7_divideByR 37 = .ok (.aload_n 0, 1) := by decide +kernel
theorem dX7_divideByR_38 : decode cX7_divideByR 38 = .ok (.getfield 11, 3) := by decide +kernel
theorem dX7_divideByR_41 : decode cX7_divideByR 41 = .ok (.iload_n 1, 1) := by decide +kernel
theorem dX7_divideByR_42 : decode cX7_divideByR 42 = .ok (.lload 4, 2) := by decide +kernel
theorem dX7_divideByR_44 : decode cX7_divideByR 44 = .ok (.lload 8, 2) := by decide +kernel
theorem dX7_divideByR_46 : decode cX7_divideByR 46 = .ok (.lsub, 1) := by decide +kernel
theorem dX7_divideByR_47 : decode cX7_divideByR 47 = .ok (.ldc2_w 84, 3) := by decide +kernel
theorem dX7_divideByR_50 : decode cX7_divideByR 50 = .ok (.ldiv, 1) := by decide +kernel
theorem dX7_divideByR_51 : decode cX7_divideByR 51 = .ok (.lastore, 1) := by decide +kernel
theorem dX7_divideByR_52 : decode cX7_divideByR 52 = .ok (.aload_n 0, 1) := by decide +kernel
theorem dX7_divideByR_53 : decode cX7_divideByR 53 = .ok (.getfield 11, 3) := by decide +kernel
theorem dX7_divideByR_56 : decode cX7_divideByR 56 = .ok (.iload_n 1, 1) := by decide +kernel
theorem dX7_divideByR_57 : decode cX7_divideByR 57 = .ok (.iconst 1, 1) := by decide +kernel
theorem dX7_divideByR_58 : decode cX7_divideByR 58 = .ok (.iadd, 1) := by decide +kernel
theorem dX7_divideByR_59 : decode cX7_divideByR 59 = .ok (.lload_n 2, 1) := by decide +kernel
theorem dX7_divideByR_60 : decode cX7_divideByR 60 = .ok (.lload 6, 2) := by decide +kernel
theorem dX7_divideByR_62 : decode cX7_divideByR 62 = .ok (.ladd, 1) := by decide +kernel
theorem dX7_divideByR_63 : decode cX7_divideByR 63 = .ok (.ldc2_w 84, 3) := by decide +kernel
theorem dX7_divideByR_66 : decode cX7_divideByR 66 = .ok (.ldiv, 1) := by decide +kernel
theorem dX7_divideByR_67 : decode cX7_divideByR 67 = .ok (.lastore, 1) := by decide +kernel
theorem dX7_divideByR_68 : decode cX7_divideByR 68 = .ok (.aload_n 0, 1) := by decide +kernel
theorem dX7_divideByR_69 : decode cX7_divideByR 69 = .ok (.getfield 11, 3) := by decide +kernel
theorem dX7_divideByR_72 : decode cX7_divideByR 72 = .ok (.iload_n 1, 1) := by decide +kernel
theorem dX7_divideByR_73 : decode cX7_divideByR 73 = .ok (.iconst 2, 1) := by decide +kernel
theorem dX7_divideByR_74 : decode cX7_divideByR 74 = .ok (.iadd, 1) := by decide +kernel
theorem dX7_divideByR_75 : decode cX7_divideByR 75 = .ok (.lload 4, 2) := by decide +kernel
theorem dX7_divideByR_77 : decode cX7_divideByR 77 = .ok (.lload 8, 2) := by decide +kernel
theorem dX7_divideByR_79 : decode cX7_divideByR 79 = .ok (.ladd, 1) := by decide +kernel
theorem dX7_divideByR_80 : decode cX7_divideByR 80 = .ok (.ldc2_w 84, 3) := by decide +kernel
theorem dX7_divideByR_83 : decode cX7_divideByR 83 = .ok (.ldiv, 1) := by decide +kernel
theorem dX7_divideByR_84 : decode cX7_divideByR 84 = .ok (.lastore, 1) := by decide +kernel
theorem dX7_divideByR_85 : decode cX7_divideByR 85 = .ok (.aload_n 0, 1) := by decide +kernel
theorem dX7_divideByR_86 : decode cX7_divideByR 86 = .ok (.getfield 11, 3) := by decide +kernel
theorem dX7_divideByR_89 : decode cX7_divideByR 89 = .ok (.iload_n 1, 1) := by decide +kernel
theorem dX7_divideByR_90 : decode cX7_divideByR 90 = .ok (.iconst 3, 1) := by decide +kernel
theorem dX7_divideByR_91 : decode cX7_divideByR 91 = .ok (.iadd, 1) := by decide +kernel
theorem dX7_divideByR_92 : decode cX7_divideByR 92 = .ok (.lload 6, 2) := by decide +kernel
theorem dX7_divideByR_94 : decode cX7_divideByR 94 = .ok (.lload_n 2, 1) := by decide +kernel
theorem dX7_divideByR_95 : decode cX7_divideByR 95 = .ok (.lsub, 1) := by decide +kernel
theorem dX7_divideByR_96 : decode cX7_divideByR 96 = .ok (.ldc2_w 84, 3) := by decide +kernel
theorem dX7_divideByR_99 : decode cX7_divideByR 99 = .ok (.ldiv, 1) := by decide +kernel
theorem dX7_divideByR_100 : decode cX7_divideByR 100 = .ok (.lastore, 1) := by decide +kernel
theorem dX7_divideByR_101 : decode cX7_divideByR 101 = .ok (.return_, 1) := by decide +kernel
theorem dX8_init_0 : decode cX8_init 0 = .ok (.aload_n 0, 1) := by decide +kernel
theorem dX8_init_1 : decode cX8_init 1 = .ok (.invokespecial 3, 3) := by decide +kernel
theorem dX8_init_4 : decode cX8_init 4 = .ok (.aload_n 0, 1) := by decide +kernel
theorem dX8_init_5 : decode cX8_init 5 = .ok (.bipush 80, 2) := by decide +kernel
theorem dX8_init_7 : decode cX8_init 7 = .ok (.newarray .int, 2) := by decide +kernel
theorem dX8_init_9 : decode cX8_init 9 = .ok (.putfield 9, 3) := by decide +kernel
theorem dX8_init_12 : decode cX8_init 12 = .ok (.aload_n 0, 1) := by decide +kernel
theorem dX8_init_13 : decode cX8_init 13 = .ok (.iconst 0, 1) := by decide +kernel
theorem dX8_init_14 : decode cX8_init 14 = .ok (.putfield 15, 3) := by decide +kernel
theorem dX8_init_17 : decode cX8_init 17 = .ok (.return_, 1) := by decide +kernel
theorem dX8_add_0 : decode cX8_add 0 = .ok (.aload_n 0, 1) := by decide +kernel
theorem dX8_add_1 : decode cX8_add 1 = .ok (.getfield 15, 3) := by decide +kernel
theorem dX8_add_4 : decode cX8_add 4 = .ok (.bipush 80, 2) := by decide +kernel
theorem dX8_add_6 : decode cX8_add 6 = .ok (.if_icmp .lt 5, 3) := by decide +kernel
theorem dX8_add_9 : decode cX8_add 9 = .ok (.iconst 0, 1) := by decide +kernel
theorem dX8_add_10 : decode cX8_add 10 = .ok (.ireturn, 1) := by decide +kernel
theorem dX8_add_11 : decode cX8_add 11 = .ok (.aload_n 0, 1) := by decide +kernel
theorem dX8_add_12 : decode cX8_add 12 = .ok (.getfield 9, 3) := by decide +kernel
theorem dX8_add_15 : decode cX8_add 15 = .ok (.aload_n 0, 1) := by decide +kernel
theorem dX8_add_16 : decode cX8_add 16 = .ok (.getfield 15, 3) := by decide +kernel
theorem dX8_add_19 : decode cX8_add 19 = .ok (.iload_n 1, 1) := by decide +kernel
theorem dX8_add_20 : decode cX8_add 20 = .ok (.iastore, 1) := by decide +kernel
theorem dX8_add_21 : decode cX8_add 21 = .ok (.aload_n 0, 1) := by decide +kernel
theorem dX8_add_22 : decode cX8_add 22 = .ok (.dup, 1) := by decide +kernel
theorem dX8_add_23 : decode cX8_add 23 = .ok (.getfield 15, 3) := by decide +kernel
theorem dX8_add_26 : decode cX8_add 26 = .ok (.iconst 1, 1) := by decide +kernel
theorem dX8_add_27 : decode cX8_add 27 = .ok (.iadd, 1) := by decide +kernel
theorem dX8_add_28 : decode cX8_add 28 = .ok (.putfield 15, 3) := by decide +kernel
theorem dX8_add_31 : decode cX8_add 31 = .ok (.iconst 1, 1) := by decide +kernel
theorem dX8_add_32 : decode cX8_add 32 = .ok (.ireturn, 1) := by decide +kernel
theorem dX8_at_0 : decode cX8_at 0 = .ok (.iload_n 1, 1) := by decide +kernel
theorem dX8_at_1 : decode cX8_at 1 = .ok (.aload_n 0, 1) := by decide +kernel
theorem dX8_at_2 : decode cX8_at 2 = .ok (.getfield 15, 3) := by decide +kernel
theorem dX8_at_5 : decode cX8_at 5 = .ok (.invokestatic 19, 3) := by decide +kernel
theorem dX8_at_8 : decode cX8_at 8 = .ok (.ifCond .eq 12, 3) := by decide +kernel
theorem dX8_at_11 : decode cX8_at 11 = .ok (.aload_n 0, 1) := by decide +kernel
theorem dX8_at_12 : decode cX8_at 12 = .ok (.getfield 9, 3) := by decide +kernel
theorem dX8_at_15 : decode cX8_at 15 = .ok (.iload_n 1, 1) := by decide +kernel
theorem dX8_at_16 : decode cX8_at 16 = .ok (.iaload, 1) := by decide +kernel
theorem dX8_at_17 : decode cX8_at 17 = .ok (.goto 5, 3) := by decide +kernel
theorem dX8_at_20 : decode cX8_at 20 = .ok (.bipush (-2), 2) := by decide +kernel
theorem dX8_at_22 : decode cX8_at 22 = .ok (.ireturn, 1) := by decide +kernel
theorem dX8_figureAt_0 : decode cX8_figureAt 0 = .ok (.aload_n 0, 1) := by decide +kernel
theorem dX8_figureAt_1 : decode cX8_figureAt 1 = .ok (.iload_n 1, 1) := by decide +kernel
theorem dX8_figureAt_2 : decode cX8_figureAt 2 = .ok (.invokevirtual 23, 3) := by decide +kernel
theorem dX8_figureAt_5 : decode cX8_figureAt 5 = .ok (.istore_n 2, 1) := by decide +kernel
theorem dX8_figureAt_6 : decode cX8_figureAt 6 = .ok (.iload_n 2, 1) := by decide +kernel
theorem dX8_figureAt_7 : decode cX8_figureAt 7 = .ok (.bipush 48, 2) := by decide +kernel
theorem dX8_figureAt_9 : decode cX8_figureAt 9 = .ok (.if_icmp .lt 16, 3) := by decide +kernel
theorem dX8_figureAt_12 : decode cX8_figureAt 12 = .ok (.iload_n 2, 1) := by decide +kernel
theorem dX8_figureAt_13 : decode cX8_figureAt 13 = .ok (.bipush 57, 2) := by decide +kernel
theorem dX8_figureAt_15 : decode cX8_figureAt 15 = .ok (.if_icmp .gt 10, 3) := by decide +kernel
theorem dX8_figureAt_18 : decode cX8_figureAt 18 = .ok (.iload_n 2, 1) := by decide +kernel
theorem dX8_figureAt_19 : decode cX8_figureAt 19 = .ok (.bipush 48, 2) := by decide +kernel
theorem dX8_figureAt_21 : decode cX8_figureAt 21 = .ok (.isub, 1) := by decide +kernel
theorem dX8_figureAt_22 : decode cX8_figureAt 22 = .ok (.goto 5, 3) := by decide +kernel
theorem dX8_figureAt_25 : decode cX8_figureAt 25 = .ok (.bipush (-2), 2) := by decide +kernel
theorem dX8_figureAt_27 : decode cX8_figureAt 27 = .ok (.ireturn, 1) := by decide +kernel
theorem dX8_findFault_0 : decode cX8_findFault 0 = .ok (.iconst 0, 1) := by decide +kernel
theorem dX8_findFault_1 : decode cX8_findFault 1 = .ok (.istore_n 1, 1) := by decide +kernel
theorem dX8_findFault_2 : decode cX8_findFault 2 = .ok (.iconst 1, 1) := by decide +kernel
theorem dX8_findFault_3 : decode cX8_findFault 3 = .ok (.istore_n 2, 1) := by decide +kernel
theorem dX8_findFault_4 : decode cX8_findFault 4 = .ok (.iconst 0, 1) := by decide +kernel
theorem dX8_findFault_5 : decode cX8_findFault 5 = .ok (.istore_n 3, 1) := by decide +kernel
theorem dX8_findFault_6 : decode cX8_findFault 6 = .ok (.iload_n 3, 1) := by decide +kernel
theorem dX8_findFault_7 : decode cX8_findFault 7 = .ok (.aload_n 0, 1) := by decide +kernel
theorem dX8_findFault_8 : decode cX8_findFault 8 = .ok (.getfield 15, 3) := by decide +kernel
theorem dX8_findFault_11 : decode cX8_findFault 11 = .ok (.if_icmp .ge 105, 3) := by decide +kernel
theorem dX8_findFault_14 : decode cX8_findFault 14 = .ok (.aload_n 0, 1) := by decide +kernel
theorem dX8_findFault_15 : decode cX8_findFault 15 = .ok (.getfield 9, 3) := by decide +kernel
theorem dX8_findFault_18 : decode cX8_findFault 18 = .ok (.iload_n 3, 1) := by decide +kernel
theorem dX8_findFault_19 : decode cX8_findFault 19 = .ok (.iaload, 1) := by decide +kernel
theorem dX8_findFault_20 : decode cX8_findFault 20 = .ok (.istore 4, 2) := by decide +kernel
theorem dX8_findFault_22 : decode cX8_findFault 22 = .ok (.iload 4, 2) := by decide +kernel
theorem dX8_findFault_24 : decode cX8_findFault 24 = .ok (.invokestatic 27, 3) := by decide +kernel
theorem dX8_findFault_27 : decode cX8_findFault 27 = .ok (.ifCond .lt 8, 3) := by decide +kernel
theorem dX8_findFault_30 : decode cX8_findFault 30 = .ok (.iconst 0, 1) := by decide +kernel
theorem dX8_findFault_31 : decode cX8_findFault 31 = .ok (.istore_n 2, 1) := by decide +kernel
theorem dX8_findFault_32 : decode cX8_findFault 32 = .ok (.goto 78, 3) := by decide +kernel
theorem dX8_findFault_35 : decode cX8_findFault 35 = .ok (.iload 4, 2) := by decide +kernel
theorem dX8_findFault_37 : decode cX8_findFault 37 = .ok (.bipush 126, 2) := by decide +kernel
theorem dX8_findFault_39 : decode cX8_findFault 39 = .ok (.if_icmp .ne 8, 3) := by decide +kernel
theorem dX8_findFault_42 : decode cX8_findFault 42 = .ok (.iconst 1, 1) := by decide +kernel
theorem dX8_findFault_43 : decode cX8_findFault 43 = .ok (.istore_n 2, 1) := by decide +kernel
theorem dX8_findFault_44 : decode cX8_findFault 44 = .ok (.goto 66, 3) := by decide +kernel
theorem dX8_findFault_47 : decode cX8_findFault 47 = .ok (.iload 4, 2) := by decide +kernel
theorem dX8_findFault_49 : decode cX8_findFault 49 = .ok (.bipush 40, 2) := by decide +kernel
theorem dX8_findFault_51 : decode cX8_findFault 51 = .ok (.if_icmp .ne 16, 3) := by decide +kernel
theorem dX8_findFault_54 : decode cX8_findFault 54 = .ok (.iload_n 1, 1) := by decide +kernel
theorem dX8_findFault_55 : decode cX8_findFault 55 = .ok (.iconst 4, 1) := by decide +kernel
theorem dX8_findFault_56 : decode cX8_findFault 56 = .ok (.if_icmp .ge 11, 3) := by decide +kernel
theorem dX8_findFault_59 : decode cX8_findFault 59 = .ok (.iinc 1 1, 3) := by decide +kernel
theorem dX8_findFault_62 : decode cX8_findFault 62 = .ok (.iconst 1, 1) := by decide +kernel
theorem dX8_findFault_63 : decode cX8_findFault 63 = .ok (.istore_n 2, 1) := by decide +kernel
theorem dX8_findFault_64 : decode cX8_findFault 64 = .ok (.goto 46, 3) := by decide +kernel
theorem dX8_findFault_67 : decode cX8_findFault 67 = .ok (.iload 4, 2) := by decide +kernel
theorem dX8_findFault_69 : decode cX8_findFault 69 = .ok (.bipush 41, 2) := by decide +kernel
theorem dX8_findFault_71 : decode cX8_findFault 71 = .ok (.if_icmp .ne 17, 3) := by decide +kernel
theorem dX8_findFault_74 : decode cX8_findFault 74 = .ok (.iload_n 1, 1) := by decide +kernel
theorem dX8_findFault_75 : decode cX8_findFault 75 = .ok (.ifCond .le 13, 3) := by decide +kernel
theorem dX8_findFault_78 : decode cX8_findFault 78 = .ok (.iload_n 2, 1) := by decide +kernel
theorem dX8_findFault_79 : decode cX8_findFault 79 = .ok (.ifCond .ne 9, 3) := by decide +kernel
theorem dX8_findFault_82 : decode cX8_findFault 82 = .ok (.iinc 1 (-1), 3) := by decide +kernel
theorem dX8_findFault_85 : decode cX8_findFault 85 = .ok (.goto 25, 3) := by decide +kernel
theorem dX8_findFault_88 : decode cX8_findFault 88 = .ok (.aload_n 0, 1) := by decide +kernel
theorem dX8_findFault_89 : decode cX8_findFault 89 = .ok (.iload_n 3, 1) := by decide +kernel
theorem dX8_findFault_90 : decode cX8_findFault 90 = .ok (.invokevirtual 30, 3) := by decide +kernel
theorem dX8_findFault_93 : decode cX8_findFault 93 = .ok (.ifCond .lt 15, 3) := by decide +kernel
theorem dX8_findFault_96 : decode cX8_findFault 96 = .ok (.aload_n 0, 1) := by decide +kernel
theorem dX8_findFault_97 : decode cX8_findFault 97 = .ok (.iload_n 3, 1) := by decide +kernel
theorem dX8_findFault_98 : decode cX8_findFault 98 = .ok (.iconst 1, 1) := by decide +kernel
theorem dX8_findFault_99 : decode cX8_findFault 99 = .ok (.isub, 1) := by decide +kernel
theorem dX8_findFault_100 : decode cX8_findFault 100 = .ok (.invokevirtual 23, 3) := by decide +kernel
theorem dX8_findFault_103 : decode cX8_findFault 103 = .ok (.bipush 41, 2) := by decide +kernel
theorem dX8_findFault_105 : decode cX8_findFault 105 = .ok (.if_icmp .eq 5, 3) := by decide +kernel
theorem dX8_findFault_108 : decode cX8_findFault 108 = .ok (.iload_n 3, 1) := by decide +kernel
theorem dX8_findFault_109 : decode cX8_findFault 109 = .ok (.ireturn, 1) := by decide +kernel
theorem dX8_findFault_110 : decode cX8_findFault 110 = .ok (.iinc 3 1, 3) := by decide +kernel
theorem dX8_findFault_113 : decode cX8_findFault 113 = .ok (.goto (-107), 3) := by decide +kernel
theorem dX8_findFault_116 : decode cX8_findFault 116 = .ok (.iload_n 2, 1) := by decide +kernel
theorem dX8_findFault_117 : decode cX8_findFault 117 = .ok (.ifCond .ne 7, 3) := by decide +kernel
theorem dX8_findFault_120 : decode cX8_findFault 120 = .ok (.iload_n 1, 1) := by decide +kernel
theorem dX8_findFault_121 : decode cX8_findFault 121 = .ok (.ifCond .le 10, 3) := by decide +kernel
theorem dX8_findFault_124 : decode cX8_findFault 124 = .ok (.aload_n 0, 1) := by decide +kernel
theorem dX8_findFault_125 : decode cX8_findFault 125 = .ok (.getfield 15, 3) := by decide +kernel
theorem dX8_findFault_128 : decode cX8_findFault 128 = .ok (.goto 5, 3) := by decide +kernel
theorem dX8_findFault_131 : decode cX8_findFault 131 = .ok (.bipush (-2), 2) := by decide +kernel
theorem dX8_findFault_133 : decode cX8_findFault 133 = .ok (.ireturn, 1) := by decide +kernel
theorem dX9_init_0 : decode cX9_init 0 = .ok (.aload_n 0, 1) := by decide +kernel
theorem dX9_init_1 : decode cX9_init 1 = .ok (.invokespecial 3, 3) := by decide +kernel
theorem dX9_init_4 : decode cX9_init 4 = .ok (.aload_n 0, 1) := by decide +kernel
theorem dX9_init_5 : decode cX9_init 5 = .ok (.new 9, 3) := by decide +kernel
theorem dX9_init_8 : decode cX9_init 8 = .ok (.dup, 1) := by decide +kernel
theorem dX9_init_9 : decode cX9_init 9 = .ok (.invokespecial 11, 3) := by decide +kernel
theorem dX9_init_12 : decode cX9_init 12 = .ok (.putfield 12, 3) := by decide +kernel
theorem dX9_init_15 : decode cX9_init 15 = .ok (.aload_n 0, 1) := by decide +kernel
theorem dX9_init_16 : decode cX9_init 16 = .ok (.new 9, 3) := by decide +kernel
theorem dX9_init_19 : decode cX9_init 19 = .ok (.dup, 1) := by decide +kernel
theorem dX9_init_20 : decode cX9_init 20 = .ok (.invokespecial 11, 3) := by decide +kernel
theorem dX9_init_23 : decode cX9_init 23 = .ok (.putfield 18, 3) := by decide +kernel
theorem dX9_init_26 : decode cX9_init 26 = .ok (.aload_n 0, 1) := by decide +kernel
theorem dX9_init_27 : decode cX9_init 27 = .ok (.iconst 0, 1) := by decide +kernel
theorem dX9_init_28 : decode cX9_init 28 = .ok (.putfield 21, 3) := by decide +kernel
theorem dX9_init_31 : decode cX9_init 31 = .ok (.aload_n 0, 1) := by decide +kernel
theorem dX9_init_32 : decode cX9_init 32 = .ok (.new 25, 3) := by decide +kernel
theorem dX9_init_35 : decode cX9_init 35 = .ok (.dup, 1) := by decide +kernel
theorem dX9_init_36 : decode cX9_init 36 = .ok (.invokespecial 27, 3) := by decide +kernel
theorem dX9_init_39 : decode cX9_init 39 = .ok (.putfield 28, 3) := by decide +kernel
theorem dX9_init_42 : decode cX9_init 42 = .ok (.aload_n 0, 1) := by decide +kernel
theorem dX9_init_43 : decode cX9_init 43 = .ok (.new 32, 3) := by decide +kernel
theorem dX9_init_46 : decode cX9_init 46 = .ok (.dup, 1) := by decide +kernel
theorem dX9_init_47 : decode cX9_init 47 = .ok (.invokespecial 34, 3) := by decide +kernel
theorem dX9_init_50 : decode cX9_init 50 = .ok (.putfield 35, 3) := by decide +kernel
theorem dX9_init_53 : decode cX9_init 53 = .ok (.aload_n 0, 1) := by decide +kernel
theorem dX9_init_54 : decode cX9_init 54 = .ok (.new 39, 3) := by decide +kernel
theorem dX9_init_57 : decode cX9_init 57 = .ok (.dup, 1) := by decide +kernel
theorem dX9_init_58 : decode cX9_init 58 = .ok (.invokespecial 41, 3) := by decide +kernel
theorem dX9_init_61 : decode cX9_init 61 = .ok (.putfield 42, 3) := by decide +kernel
theorem dX9_init_64 : decode cX9_init 64 = .ok (.aload_n 0, 1) := by decide +kernel
theorem dX9_init_65 : decode cX9_init 65 = .ok (.new 46, 3) := by decide +kernel
theorem dX9_init_68 : decode cX9_init 68 = .ok (.dup, 1) := by decide +kernel
theorem dX9_init_69 : decode cX9_init 69 = .ok (.invokespecial 48, 3) := by decide +kernel
theorem dX9_init_72 : decode cX9_init 72 = .ok (.putfield 49, 3) := by decide +kernel
theorem dX9_init_75 : decode cX9_init 75 = .ok (.aload_n 0, 1) := by decide +kernel
theorem dX9_init_76 : decode cX9_init 76 = .ok (.new 53, 3) := by decide +kernel
theorem dX9_init_79 : decode cX9_init 79 = .ok (.dup, 1) := by decide +kernel
theorem dX9_init_80 : decode cX9_init 80 = .ok (.invokespecial 55, 3) := by decide +kernel
theorem dX9_init_83 : decode cX9_init 83 = .ok (.putfield 56, 3) := by decide +kernel
theorem dX9_init_86 : decode cX9_init 86 = .ok (.aload_n 0, 1) := by decide +kernel
theorem dX9_init_87 : decode cX9_init 87 = .ok (.new 60, 3) := by decide +kernel
theorem dX9_init_90 : decode cX9_init 90 = .ok (.dup, 1) := by decide +kernel
theorem dX9_init_91 : decode cX9_init 91 = .ok (.invokespecial 62, 3) := by decide +kernel
theorem dX9_init_94 : decode cX9_init 94 = .ok (.putfield 63, 3) := by decide +kernel
theorem dX9_init_97 : decode cX9_init 97 = .ok (.aload_n 0, 1) := by decide +kernel
theorem dX9_init_98 : decode cX9_init 98 = .ok (.new 67, 3) := by decide +kernel
theorem dX9_init_101 : decode cX9_init 101 = .ok (.dup, 1) := by decide +kernel
theorem dX9_init_102 : decode cX9_init 102 = .ok (.invokespecial 69, 3) := by decide +kernel
theorem dX9_init_105 : decode cX9_init 105 = .ok (.putfield 70, 3) := by decide +kernel
theorem dX9_init_108 : decode cX9_init 108 = .ok (.aload_n 0, 1) := by decide +kernel
theorem dX9_init_109 : decode cX9_init 109 = .ok (.new 74, 3) := by decide +kernel
theorem dX9_init_112 : decode cX9_init 112 = .ok (.dup, 1) := by decide +kernel
theorem dX9_init_113 : decode cX9_init 113 = .ok (.invokespecial 76, 3) := by decide +kernel
theorem dX9_init_116 : decode cX9_init 116 = .ok (.putfield 77, 3) := by decide +kernel
theorem dX9_init_119 : decode cX9_init 119 = .ok (.aload_n 0, 1) := by decide +kernel
theorem dX9_init_120 : decode cX9_init 120 = .ok (.new 74, 3) := by decide +kernel
theorem dX9_init_123 : decode cX9_init 123 = .ok (.dup, 1) := by decide +kernel
theorem dX9_init_124 : decode cX9_init 124 = .ok (.invokespecial 76, 3) := by decide +kernel
theorem dX9_init_127 : decode cX9_init 127 = .ok (.putfield 81, 3) := by decide +kernel
theorem dX9_init_130 : decode cX9_init 130 = .ok (.aload_n 0, 1) := by decide +kernel
theorem dX9_init_131 : decode cX9_init 131 = .ok (.new 74, 3) := by decide +kernel
theorem dX9_init_134 : decode cX9_init 134 = .ok (.dup, 1) := by decide +kernel
theorem dX9_init_135 : decode cX9_init 135 = .ok (.invokespecial 76, 3) := by decide +kernel
theorem dX9_init_138 : decode cX9_init 138 = .ok (.putfield 84, 3) := by decide +kernel
theorem dX9_init_141 : decode cX9_init 141 = .ok (.aload_n 0, 1) := by decide +kernel
theorem dX9_init_142 : decode cX9_init 142 = .ok (.new 74, 3) := by decide +kernel
theorem dX9_init_145 : decode cX9_init 145 = .ok (.dup, 1) := by decide +kernel
theorem dX9_init_146 : decode cX9_init 146 = .ok (.invokespecial 76, 3) := by decide +kernel
theorem dX9_init_149 : decode cX9_init 149 = .ok (.putfield 87, 3) := by decide +kernel
theorem dX9_init_152 : decode cX9_init 152 = .ok (.return_, 1) := by decide +kernel
theorem dX9_one_0 : decode cX9_one 0 = .ok (.iload_n 1, 1) := by decide +kernel
theorem dX9_one_1 : decode cX9_one 1 = .ok (.invokestatic 90, 3) := by decide +kernel
theorem dX9_one_4 : decode cX9_one 4 = .ok (.ifCond .ne 5, 3) := by decide +kernel
theorem dX9_one_7 : decode cX9_one 7 = .ok (.iconst (-1), 1) := by decide +kernel
theorem dX9_one_8 : decode cX9_one 8 = .ok (.ireturn, 1) := by decide +kernel
theorem dX9_one_9 : decode cX9_one 9 = .ok (.aload_n 0, 1) := by decide +kernel
theorem dX9_one_10 : decode cX9_one 10 = .ok (.getfield 12, 3) := by decide +kernel
theorem dX9_one_13 : decode cX9_one 13 = .ok (.getfield 94, 3) := by decide +kernel
theorem dX9_one_16 : decode cX9_one 16 = .ok (.iload_n 1, 1) := by decide +kernel
theorem dX9_one_17 : decode cX9_one 17 = .ok (.aaload, 1) := by decide +kernel
theorem dX9_one_18 : decode cX9_one 18 = .ok (.getfield 98, 3) := by decide +kernel
theorem dX9_one_21 : decode cX9_one 21 = .ok (.istore_n 2, 1) := by decide +kernel
theorem dX9_one_22 : decode cX9_one 22 = .ok (.aload_n 0, 1) := by decide +kernel
theorem dX9_one_23 : decode cX9_one 23 = .ok (.getfield 12, 3) := by decide +kernel
theorem dX9_one_26 : decode cX9_one 26 = .ok (.getfield 94, 3) := by decide +kernel
theorem dX9_one_29 : decode cX9_one 29 = .ok (.iload_n 1, 1) := by decide +kernel
theorem dX9_one_30 : decode cX9_one 30 = .ok (.aaload, 1) := by decide +kernel
theorem dX9_one_31 : decode cX9_one 31 = .ok (.invokevirtual 102, 3) := by decide +kernel
theorem dX9_one_34 : decode cX9_one 34 = .ok (.iload_n 2, 1) := by decide +kernel
theorem dX9_one_35 : decode cX9_one 35 = .ok (.ireturn, 1) := by decide +kernel
theorem dX9_gate_0 : decode cX9_gate 0 = .ok (.iload_n 1, 1) := by decide +kernel
theorem dX9_gate_1 : decode cX9_gate 1 = .ok (.invokestatic 90, 3) := by decide +kernel
theorem dX9_gate_4 : decode cX9_gate 4 = .ok (.ifCond .eq 10, 3) := by decide +kernel
theorem dX9_gate_7 : decode cX9_gate 7 = .ok (.iload_n 2, 1) := by decide +kernel
theorem dX9_gate_8 : decode cX9_gate 8 = .ok (.invokestatic 105, 3) := by decide +kernel
theorem dX9_gate_11 : decode cX9_gate 11 = .ok (.ifCond .ne 5, 3) := by decide +kernel
theorem dX9_gate_14 : decode cX9_gate 14 = .ok (.iconst (-1), 1) := by decide +kernel
theorem dX9_gate_15 : decode cX9_gate 15 = .ok (.ireturn, 1) := by decide +kernel
theorem dX9_gate_16 : decode cX9_gate 16 = .ok (.aload_n 0, 1) := by decide +kernel
theorem dX9_gate_17 : decode cX9_gate 17 = .ok (.getfield 77, 3) := by decide +kernel
theorem dX9_gate_20 : decode cX9_gate 20 = .ok (.aload_n 0, 1) := by decide +kernel
theorem dX9_gate_21 : decode cX9_gate 21 = .ok (.getfield 12, 3) := by decide +kernel
theorem dX9_gate_24 : decode cX9_gate 24 = .ok (.getfield 94, 3) := by decide +kernel
theorem dX9_gate_27 : decode cX9_gate 27 = .ok (.iload_n 1, 1) := by decide +kernel
theorem dX9_gate_28 : decode cX9_gate 28 = .ok (.aaload, 1) := by decide +kernel
theorem dX9_gate_29 : decode cX9_gate 29 = .ok (.invokevirtual 108, 3) := by decide +kernel
theorem dX9_gate_32 : decode cX9_gate 32 = .ok (.aload_n 0, 1) := by decide +kernel
theorem dX9_gate_33 : decode cX9_gate 33 = .ok (.getfield 77, 3) := by decide +kernel
theorem dX9_gate_36 : decode cX9_gate 36 = .ok (.iload_n 2, 1) := by decide +kernel
theorem dX9_gate_37 : decode cX9_gate 37 = .ok (.invokevirtual 112, 3) := by decide +kernel
theorem dX9_gate_40 : decode cX9_gate 40 = .ok (.aload_n 0, 1) := by decide +kernel
theorem dX9_gate_41 : decode cX9_gate 41 = .ok (.iload_n 1, 1) := by decide +kernel
theorem dX9_gate_42 : decode cX9_gate 42 = .ok (.invokevirtual 116, 3) := by decide +kernel
theorem dX9_gate_45 : decode cX9_gate 45 = .ok (.ireturn, 1) := by decide +kernel
theorem dX9_ahead_0 : decode cX9_ahead 0 = .ok (.iload_n 1, 1) := by decide +kernel
theorem dX9_ahead_1 : decode cX9_ahead 1 = .ok (.invokestatic 90, 3) := by decide +kernel
theorem dX9_ahead_4 : decode cX9_ahead 4 = .ok (.ifCond .eq 10, 3) := by decide +kernel
theorem dX9_ahead_7 : decode cX9_ahead 7 = .ok (.iload_n 2, 1) := by decide +kernel
theorem dX9_ahead_8 : decode cX9_ahead 8 = .ok (.invokestatic 105, 3) := by decide +kernel
theorem dX9_ahead_11 : decode cX9_ahead 11 = .ok (.ifCond .ne 5, 3) := by decide +kernel
theorem dX9_ahead_14 : decode cX9_ahead 14 = .ok (.iconst (-1), 1) := by decide +kernel
theorem dX9_ahead_15 : decode cX9_ahead 15 = .ok (.ireturn, 1) := by decide +kernel
theorem dX9_ahead_16 : decode cX9_ahead 16 = .ok (.aload_n 0, 1) := by decide +kernel
theorem dX9_ahead_17 : decode cX9_ahead 17 = .ok (.getfield 77, 3) := by decide +kernel
theorem dX9_ahead_20 : decode cX9_ahead 20 = .ok (.aload_n 0, 1) := by decide +kernel
theorem dX9_ahead_21 : decode cX9_ahead 21 = .ok (.getfield 12, 3) := by decide +kernel
theorem dX9_ahead_24 : decode cX9_ahead 24 = .ok (.getfield 94, 3) := by decide +kernel
theorem dX9_ahead_27 : decode cX9_ahead 27 = .ok (.iload_n 1, 1) := by decide +kernel
theorem dX9_ahead_28 : decode cX9_ahead 28 = .ok (.aaload, 1) := by decide +kernel
theorem dX9_ahead_29 : decode cX9_ahead 29 = .ok (.invokevirtual 108, 3) := by decide +kernel
theorem dX9_ahead_32 : decode cX9_ahead 32 = .ok (.aload_n 0, 1) := by decide +kernel
theorem dX9_ahead_33 : decode cX9_ahead 33 = .ok (.getfield 77, 3) := by decide +kernel
theorem dX9_ahead_36 : decode cX9_ahead 36 = .ok (.iload_n 2, 1) := by decide +kernel
theorem dX9_ahead_37 : decode cX9_ahead 37 = .ok (.invokevirtual 120, 3) := by decide +kernel
theorem dX9_ahead_40 : decode cX9_ahead 40 = .ok (.aload_n 0, 1) := by decide +kernel
theorem dX9_ahead_41 : decode cX9_ahead 41 = .ok (.iload_n 1, 1) := by decide +kernel
theorem dX9_ahead_42 : decode cX9_ahead 42 = .ok (.invokevirtual 116, 3) := by decide +kernel
theorem dX9_ahead_45 : decode cX9_ahead 45 = .ok (.ireturn, 1) := by decide +kernel
theorem dX9_times_0 : decode cX9_times 0 = .ok (.iload_n 1, 1) := by decide +kernel
theorem dX9_times_1 : decode cX9_times 1 = .ok (.invokestatic 90, 3) := by decide +kernel
theorem dX9_times_4 : decode cX9_times 4 = .ok (.ifCond .eq 17, 3) := by decide +kernel
theorem dX9_times_7 : decode cX9_times 7 = .ok (.iload_n 2, 1) := by decide +kernel
theorem dX9_times_8 : decode cX9_times 8 = .ok (.invokestatic 90, 3) := by decide +kernel
theorem dX9_times_11 : decode cX9_times 11 = .ok (.ifCond .eq 10, 3) := by decide +kernel
theorem dX9_times_14 : decode cX9_times 14 = .ok (.iload_n 3, 1) := by decide +kernel
theorem dX9_times_15 : decode cX9_times 15 = .ok (.invokestatic 90, 3) := by decide +kernel
theorem dX9_times_18 : decode cX9_times 18 = .ok (.ifCond .ne 5, 3) := by decide +kernel
theorem dX9_times_21 : decode cX9_times 21 = .ok (.iconst (-1), 1) := by decide +kernel
theorem dX9_times_22 : decode cX9_times 22 = .ok (.ireturn, 1) := by decide +kernel
theorem dX9_times_23 : decode cX9_times 23 = .ok (.aload_n 0, 1) := by decide +kernel
theorem dX9_times_24 : decode cX9_times 24 = .ok (.getfield 77, 3) := by decide +kernel
theorem dX9_times_27 : decode cX9_times 27 = .ok (.aload_n 0, 1) := by decide +kernel
theorem dX9_times_28 : decode cX9_times 28 = .ok (.getfield 12, 3) := by decide +kernel
theorem dX9_times_31 : decode cX9_times 31 = .ok (.getfield 94, 3) := by decide +kernel
theorem dX9_times_34 : decode cX9_times 34 = .ok (.iload_n 2, 1) := by decide +kernel
theorem dX9_times_35 : decode cX9_times 35 = .ok (.aaload, 1) := by decide +kernel
theorem dX9_times_36 : decode cX9_times 36 = .ok (.aload_n 0, 1) := by decide +kernel
theorem dX9_times_37 : decode cX9_times 37 = .ok (.getfield 12, 3) := by decide +kernel
theorem dX9_times_40 : decode cX9_times 40 = .ok (.getfield 94, 3) := by decide +kernel
theorem dX9_times_43 : decode cX9_times 43 = .ok (.iload_n 3, 1) := by decide +kernel
theorem dX9_times_44 : decode cX9_times 44 = .ok (.aaload, 1) := by decide +kernel
theorem dX9_times_45 : decode cX9_times 45 = .ok (.invokevirtual 123, 3) := by decide +kernel
theorem dX9_times_48 : decode cX9_times 48 = .ok (.aload_n 0, 1) := by decide +kernel
theorem dX9_times_49 : decode cX9_times 49 = .ok (.getfield 77, 3) := by decide +kernel
theorem dX9_times_52 : decode cX9_times 52 = .ok (.invokevirtual 127, 3) := by decide +kernel
theorem dX9_times_55 : decode cX9_times 55 = .ok (.aload_n 0, 1) := by decide +kernel
theorem dX9_times_56 : decode cX9_times 56 = .ok (.iload_n 1, 1) := by decide +kernel
theorem dX9_times_57 : decode cX9_times 57 = .ok (.invokevirtual 116, 3) := by decide +kernel
theorem dX9_times_60 : decode cX9_times 60 = .ok (.ireturn, 1) := by decide +kernel
theorem dX9_turn_0 : decode cX9_turn 0 = .ok (.iload_n 1, 1) := by decide +kernel
theorem dX9_turn_1 : decode cX9_turn 1 = .ok (.invokestatic 90, 3) := by decide +kernel
theorem dX9_turn_4 : decode cX9_turn 4 = .ok (.ifCond .ne 5, 3) := by decide +kernel
theorem dX9_turn_7 : decode cX9_turn 7 = .ok (.iconst (-1), 1) := by decide +kernel
theorem dX9_turn_8 : decode cX9_turn 8 = .ok (.ireturn, 1) := by decide +kernel
theorem dX9_turn_9 : decode cX9_turn 9 = .ok (.aload_n 0, 1) := by decide +kernel
theorem dX9_turn_10 : decode cX9_turn 10 = .ok (.getfield 77, 3) := by decide +kernel
theorem dX9_turn_13 : decode cX9_turn 13 = .ok (.aload_n 0, 1) := by decide +kernel
theorem dX9_turn_14 : decode cX9_turn 14 = .ok (.getfield 12, 3) := by decide +kernel
theorem dX9_turn_17 : decode cX9_turn 17 = .ok (.getfield 94, 3) := by decide +kernel
theorem dX9_turn_20 : decode cX9_turn 20 = .ok (.iload_n 1, 1) := by decide +kernel
theorem dX9_turn_21 : decode cX9_turn 21 = .ok (.aaload, 1) := by decide +kernel
theorem dX9_turn_22 : decode cX9_turn 22 = .ok (.invokevirtual 130, 3) := by decide +kernel
theorem dX9_turn_25 : decode cX9_turn 25 = .ok (.aload_n 0, 1) := by decide +kernel
theorem dX9_turn_26 : decode cX9_turn 26 = .ok (.iload_n 1, 1) := by decide +kernel
theorem dX9_turn_27 : decode cX9_turn 27 = .ok (.invokevirtual 116, 3) := by decide +kernel
theorem dX9_turn_30 : decode cX9_turn 30 = .ok (.ireturn, 1) := by decide +kernel
theorem dX9_part_0 : decode cX9_part 0 = .ok (.iload_n 1, 1) := by decide +kernel
theorem dX9_part_1 : decode cX9_part 1 = .ok (.invokestatic 90, 3) := by decide +kernel
theorem dX9_part_4 : decode cX9_part 4 = .ok (.ifCond .eq 28, 3) := by decide +kernel
theorem dX9_part_7 : decode cX9_part 7 = .ok (.iload_n 2, 1) := by decide +kernel
theorem dX9_part_8 : decode cX9_part 8 = .ok (.iconst 2, 1) := by decide +kernel
theorem dX9_part_9 : decode cX9_part 9 = .ok (.invokestatic 133, 3) := by decide +kernel
theorem dX9_part_12 : decode cX9_part 12 = .ok (.ifCond .eq 20, 3) := by decide +kernel
theorem dX9_part_15 : decode cX9_part 15 = .ok (.iload_n 3, 1) := by decide +kernel
theorem dX9_part_16 : decode cX9_part 16 = .ok (.iconst 2, 1) := by decide +kernel
theorem dX9_part_17 : decode cX9_part 17 = .ok (.invokestatic 133, 3) := by decide +kernel
theorem dX9_part_20 : decode cX9_part 20 = .ok (.ifCond .eq 12, 3) := by decide +kernel
theorem dX9_part_23 : decode cX9_part 23 = .ok (.iload 4, 2) := by decide +kernel
theorem dX9_part_25 : decode cX9_part 25 = .ok (.iconst 4, 1) := by decide +kernel
theorem dX9_part_26 : decode cX9_part 26 = .ok (.invokestatic 133, 3) := by decide +kernel
theorem dX9_part_29 : decode cX9_part 29 = .ok (.ifCond .ne 7, 3) := by decide +kernel
theorem dX9_part_32 : decode cX9_part 32 = .ok (.ldc2_w 137, 3) := by decide +kernel
theorem dX9_part_35 : decode cX9_part 35 = .ok (.lreturn, 1) := by decide +kernel
theorem dX9_part_36 : decode cX9_part 36 = .ok (.aload_n 0, 1) := by decide +kernel
theorem dX9_part_37 : decode cX9_part 37 = .ok (.getfield 12, 3) := by decide +kernel
theorem dX9_part_40 : decode cX9_part 40 = .ok (.getfield 94, 3) := by decide +kernel
theorem dX9_part_43 : decode cX9_part 43 = .ok (.iload_n 1, 1) := by decide +kernel
theorem dX9_part_44 : decode cX9_part 44 = .ok (.aaload, 1) := by decide +kernel
theorem dX9_part_45 : decode cX9_part 45 = .ok (.getfield 139, 3) := by decide +kernel
theorem dX9_part_48 : decode cX9_part 48 = .ok (.iload_n 2, 1) := by decide +kernel
theorem dX9_part_49 : decode cX9_part 49 = .ok (.iload_n 3, 1) := by decide +kernel
theorem dX9_part_50 : decode cX9_part 50 = .ok (.invokestatic 143, 3) := by decide +kernel
theorem dX9_part_53 : decode cX9_part 53 = .ok (.iload 4, 2) := by decide +kernel
theorem dX9_part_55 : decode cX9_part 55 = .ok (.iadd, 1) := by decide +kernel
theorem dX9_part_56 : decode cX9_part 56 = .ok (.laload, 1) := by decide +kernel
theorem dX9_part_57 : decode cX9_part 57 = .ok (.lreturn, 1) := by decide +kernel
theorem dX9_e_0 : decode cX9_e 0 = .ok (.iload_n 1, 1) := by decide +kernel
theorem dX9_e_1 : decode cX9_e 1 = .ok (.invokestatic 90, 3) := by decide +kernel
theorem dX9_e_4 : decode cX9_e 4 = .ok (.ifCond .eq 18, 3) := by decide +kernel
theorem dX9_e_7 : decode cX9_e 7 = .ok (.aload_n 0, 1) := by decide +kernel
theorem dX9_e_8 : decode cX9_e 8 = .ok (.getfield 12, 3) := by decide +kernel
theorem dX9_e_11 : decode cX9_e 11 = .ok (.getfield 94, 3) := by decide +kernel
theorem dX9_e_14 : decode cX9_e 14 = .ok (.iload_n 1, 1) := by decide +kernel
theorem dX9_e_15 : decode cX9_e 15 = .ok (.aaload, 1) := by decide +kernel
theorem dX9_e_16 : decode cX9_e 16 = .ok (.getfield 98, 3) := by decide +kernel
theorem dX9_e_19 : decode cX9_e 19 = .ok (.goto 4, 3) := by decide +kernel
theorem dX9_e_22 : decode cX9_e 22 = .ok (.iconst (-1), 1) := by decide +kernel
theorem dX9_e_23 : decode cX9_e 23 = .ok (.ireturn, 1) := by decide +kernel
theorem dX9_phase_0 : decode cX9_phase 0 = .ok (.iload_n 1, 1) := by decide +kernel
theorem dX9_phase_1 : decode cX9_phase 1 = .ok (.invokestatic 90, 3) := by decide +kernel
theorem dX9_phase_4 : decode cX9_phase 4 = .ok (.ifCond .eq 10, 3) := by decide +kernel
theorem dX9_phase_7 : decode cX9_phase 7 = .ok (.iload_n 2, 1) := by decide +kernel
theorem dX9_phase_8 : decode cX9_phase 8 = .ok (.invokestatic 90, 3) := by decide +kernel
theorem dX9_phase_11 : decode cX9_phase 11 = .ok (.ifCond .ne 5, 3) := by decide +kernel
theorem dX9_phase_14 : decode cX9_phase 14 = .ok (.iconst (-1), 1) := by decide +kernel
theorem dX9_phase_15 : decode cX9_phase 15 = .ok (.ireturn, 1) := by decide +kernel
theorem dX9_phase_16 : decode cX9_phase 16 = .ok (.aload_n 0, 1) := by decide +kernel
theorem dX9_phase_17 : decode cX9_phase 17 = .ok (.getfield 77, 3) := by decide +kernel
theorem dX9_phase_20 : decode cX9_phase 20 = .ok (.aload_n 0, 1) := by decide +kernel
theorem dX9_phase_21 : decode cX9_phase 21 = .ok (.getfield 12, 3) := by decide +kernel
theorem dX9_phase_24 : decode cX9_phase 24 = .ok (.getfield 94, 3) := by decide +kernel
theorem dX9_phase_27 : decode cX9_phase 27 = .ok (.iload_n 2, 1) := by decide +kernel
theorem dX9_phase_28 : decode cX9_phase 28 = .ok (.aaload, 1) := by decide +kernel
theorem dX9_phase_29 : decode cX9_phase 29 = .ok (.invokevirtual 108, 3) := by decide +kernel
theorem dX9_phase_32 : decode cX9_phase 32 = .ok (.iconst 0, 1) := by decide +kernel
theorem dX9_phase_33 : decode cX9_phase 33 = .ok (.istore_n 3, 1) := by decide +kernel
theorem dX9_phase_34 : decode cX9_phase 34 = .ok (.iload_n 3, 1) := by decide +kernel
theorem dX9_phase_35 : decode cX9_phase 35 = .ok (.bipush 8, 2) := by decide +kernel
theorem dX9_phase_37 : decode cX9_phase 37 = .ok (.if_icmp .ge 38, 3) := by decide +kernel
theorem dX9_phase_40 : decode cX9_phase 40 = .ok (.aload_n 0, 1) := by decide +kernel
theorem dX9_phase_41 : decode cX9_phase 41 = .ok (.getfield 77, 3) := by decide +kernel
theorem dX9_phase_44 : decode cX9_phase 44 = .ok (.aload_n 0, 1) := by decide +kernel
theorem dX9_phase_45 : decode cX9_phase 45 = .ok (.getfield 12, 3) := by decide +kernel
theorem dX9_phase_48 : decode cX9_phase 48 = .ok (.getfield 94, 3) := by decide +kernel
theorem dX9_phase_51 : decode cX9_phase 51 = .ok (.iload_n 1, 1) := by decide +kernel
theorem dX9_phase_52 : decode cX9_phase 52 = .ok (.aaload, 1) := by decide +kernel
theorem dX9_phase_53 : decode cX9_phase 53 = .ok (.invokevirtual 147, 3) := by decide +kernel
theorem dX9_phase_56 : decode cX9_phase 56 = .ok (.ifCond .eq 5, 3) := by decide +kernel
theorem dX9_phase_59 : decode cX9_phase 59 = .ok (.iload_n 3, 1) := by decide +kernel
theorem dX9_phase_60 : decode cX9_phase 60 = .ok (.ireturn, 1) := by decide +kernel
theorem dX9_phase_61 : decode cX9_phase 61 = .ok (.aload_n 0, 1) := by decide +kernel
theorem dX9_phase_62 : decode cX9_phase 62 = .ok (.getfield 77, 3) := by decide +kernel
theorem dX9_phase_65 : decode cX9_phase 65 = .ok (.iconst 5, 1) := by decide +kernel
theorem dX9_phase_66 : decode cX9_phase 66 = .ok (.invokevirtual 120, 3) := by decide +kernel
theorem dX9_phase_69 : decode cX9_phase 69 = .ok (.iinc 3 1, 3) := by decide +kernel
theorem dX9_phase_72 : decode cX9_phase 72 = .ok (.goto (-38), 3) := by decide +kernel
theorem dX9_phase_75 : decode cX9_phase 75 = .ok (.bipush (-2), 2) := by decide +kernel
theorem dX9_phase_77 : decode cX9_phase 77 = .ok (.ireturn, 1) := by decide +kernel
theorem dX9_channel_0 : decode cX9_channel 0 = .ok (.iload_n 1, 1) := by decide +kernel
theorem dX9_channel_1 : decode cX9_channel 1 = .ok (.invokestatic 90, 3) := by decide +kernel
theorem dX9_channel_4 : decode cX9_channel 4 = .ok (.ifCond .eq 28, 3) := by decide +kernel
theorem dX9_channel_7 : decode cX9_channel 7 = .ok (.iload_n 2, 1) := by decide +kernel
theorem dX9_channel_8 : decode cX9_channel 8 = .ok (.iconst 3, 1) := by decide +kernel
theorem dX9_channel_9 : decode cX9_channel 9 = .ok (.invokestatic 133, 3) := by decide +kernel
theorem dX9_channel_12 : decode cX9_channel 12 = .ok (.ifCond .eq 20, 3) := by decide +kernel
theorem dX9_channel_15 : decode cX9_channel 15 = .ok (.iload_n 3, 1) := by decide +kernel
theorem dX9_channel_16 : decode cX9_channel 16 = .ok (.iconst 3, 1) := by decide +kernel
theorem dX9_channel_17 : decode cX9_channel 17 = .ok (.invokestatic 133, 3) := by decide +kernel
theorem dX9_channel_20 : decode cX9_channel 20 = .ok (.ifCond .eq 12, 3) := by decide +kernel
theorem dX9_channel_23 : decode cX9_channel 23 = .ok (.iload 4, 2) := by decide +kernel
theorem dX9_channel_25 : decode cX9_channel 25 = .ok (.iconst 2, 1) := by decide +kernel
theorem dX9_channel_26 : decode cX9_channel 26 = .ok (.invokestatic 133, 3) := by decide +kernel
theorem dX9_channel_29 : decode cX9_channel 29 = .ok (.ifCond .ne 7, 3) := by decide +kernel
theorem dX9_channel_32 : decode cX9_channel 32 = .ok (.ldc2_w 137, 3) := by decide +kernel
theorem dX9_channel_35 : decode cX9_channel 35 = .ok (.lreturn, 1) := by decide +kernel
theorem dX9_channel_36 : decode cX9_channel 36 = .ok (.aload_n 0, 1) := by decide +kernel
theorem dX9_channel_37 : decode cX9_channel 37 = .ok (.getfield 56, 3) := by decide +kernel
theorem dX9_channel_40 : decode cX9_channel 40 = .ok (.aload_n 0, 1) := by decide +kernel
theorem dX9_channel_41 : decode cX9_channel 41 = .ok (.getfield 12, 3) := by decide +kernel
theorem dX9_channel_44 : decode cX9_channel 44 = .ok (.getfield 94, 3) := by decide +kernel
theorem dX9_channel_47 : decode cX9_channel 47 = .ok (.iload_n 1, 1) := by decide +kernel
theorem dX9_channel_48 : decode cX9_channel 48 = .ok (.aaload, 1) := by decide +kernel
theorem dX9_channel_49 : decode cX9_channel 49 = .ok (.invokevirtual 151, 3) := by decide +kernel
theorem dX9_channel_52 : decode cX9_channel 52 = .ok (.iload 4, 2) := by decide +kernel
theorem dX9_channel_54 : decode cX9_channel 54 = .ok (.ifCond .ne 19, 3) := by decide +kernel
theorem dX9_channel_57 : decode cX9_channel 57 = .ok (.aload_n 0, 1) := by decide +kernel
theorem dX9_channel_58 : decode cX9_channel 58 = .ok (.getfield 56, 3) := by decide +kernel
theorem dX9_channel_61 : decode cX9_channel 61 = .ok (.getfield 154, 3) := by decide +kernel
theorem dX9_channel_64 : decode cX9_channel 64 = .ok (.iload_n 2, 1) := by decide +kernel
theorem dX9_channel_65 : decode cX9_channel 65 = .ok (.iconst 3, 1) := by decide +kernel
theorem dX9_channel_66 : decode cX9_channel 66 = .ok (.imul, 1) := by decide +kernel
theorem dX9_channel_67 : decode cX9_channel 67 = .ok (.iload_n 3, 1) := by decide +kernel
theorem dX9_channel_68 : decode cX9_channel 68 = .ok (.iadd, 1) := by decide +kernel
theorem dX9_channel_69 : decode cX9_channel 69 = .ok (.laload, 1) := by decide +kernel
theorem dX9_channel_70 : decode cX9_channel 70 = .ok (.goto 16, 3) := by decide +kernel
theorem dX9_channel_73 : decode cX9_channel 73 = .ok (.aload_n 0, 1) := by decide +kernel
theorem dX9_channel_74 : decode cX9_channel 74 = .ok (.getfield 56, 3) := by decide +kernel
theorem dX9_channel_77 : decode cX9_channel 77 = .ok (.getfield 157, 3) := by decide +kernel
theorem dX9_channel_80 : decode cX9_channel 80 = .ok (.iload_n 2, 1) := by decide +kernel
theorem dX9_channel_81 : decode cX9_channel 81 = .ok (.iconst 3, 1) := by decide +kernel
theorem dX9_channel_82 : decode cX9_channel 82 = .ok (.imul, 1) := by decide +kernel
theorem dX9_channel_83 : decode cX9_channel 83 = .ok (.iload_n 3, 1) := by decide +kernel
theorem dX9_channel_84 : decode cX9_channel 84 = .ok (.iadd, 1) := by decide +kernel
theorem dX9_channel_85 : decode cX9_channel 85 = .ok (.laload, 1) := by decide +kernel
theorem dX9_channel_86 : decode cX9_channel 86 = .ok (.lreturn, 1) := by decide +kernel
theorem dX9_count_0 : decode cX9_count 0 = .ok (.iload_n 1, 1) := by decide +kernel
theorem dX9_count_1 : decode cX9_count 1 = .ok (.invokestatic 90, 3) := by decide +kernel
theorem dX9_count_4 : decode cX9_count 4 = .ok (.ifCond .ne 5, 3) := by decide +kernel
theorem dX9_count_7 : decode cX9_count 7 = .ok (.iconst (-1), 1) := by decide +kernel
theorem dX9_count_8 : decode cX9_count 8 = .ok (.ireturn, 1) := by decide +kernel
theorem dX9_count_9 : decode cX9_count 9 = .ok (.aload_n 0, 1) := by decide +kernel
theorem dX9_count_10 : decode cX9_count 10 = .ok (.getfield 56, 3) := by decide +kernel
theorem dX9_count_13 : decode cX9_count 13 = .ok (.aload_n 0, 1) := by decide +kernel
theorem dX9_count_14 : decode cX9_count 14 = .ok (.getfield 12, 3) := by decide +kernel
theorem dX9_count_17 : decode cX9_count 17 = .ok (.getfield 94, 3) := by decide +kernel
theorem dX9_count_20 : decode cX9_count 20 = .ok (.iload_n 1, 1) := by decide +kernel
theorem dX9_count_21 : decode cX9_count 21 = .ok (.aaload, 1) := by decide +kernel
theorem dX9_count_22 : decode cX9_count 22 = .ok (.invokevirtual 151, 3) := by decide +kernel
theorem dX9_count_25 : decode cX9_count 25 = .ok (.aload_n 0, 1) := by decide +kernel
theorem dX9_count_26 : decode cX9_count 26 = .ok (.getfield 56, 3) := by decide +kernel
theorem dX9_count_29 : decode cX9_count 29 = .ok (.getfield 160, 3) := by decide +kernel
theorem dX9_count_32 : decode cX9_count 32 = .ok (.ireturn, 1) := by decide +kernel
theorem dX9_clifford_0 : decode cX9_clifford 0 = .ok (.iload_n 1, 1) := by decide +kernel
theorem dX9_clifford_1 : decode cX9_clifford 1 = .ok (.invokestatic 90, 3) := by decide +kernel
theorem dX9_clifford_4 : decode cX9_clifford 4 = .ok (.ifCond .ne 5, 3) := by decide +kernel
theorem dX9_clifford_7 : decode cX9_clifford 7 = .ok (.iconst (-1), 1) := by decide +kernel
theorem dX9_clifford_8 : decode cX9_clifford 8 = .ok (.ireturn, 1) := by decide +kernel
theorem dX9_clifford_9 : decode cX9_clifford 9 = .ok (.aload_n 0, 1) := by decide +kernel
theorem dX9_clifford_10 : decode cX9_clifford 10 = .ok (.getfield 49, 3) := by decide +kernel
theorem dX9_clifford_13 : decode cX9_clifford 13 = .ok (.invokevirtual 163, 3) := by decide +kernel
theorem dX9_clifford_16 : decode cX9_clifford 16 = .ok (.aload_n 0, 1) := by decide +kernel
theorem dX9_clifford_17 : decode cX9_clifford 17 = .ok (.getfield 49, 3) := by decide +kernel
theorem dX9_clifford_20 : decode cX9_clifford 20 = .ok (.aload_n 0, 1) := by decide +kernel
theorem dX9_clifford_21 : decode cX9_clifford 21 = .ok (.getfield 12, 3) := by decide +kernel
theorem dX9_clifford_24 : decode cX9_clifford 24 = .ok (.getfield 94, 3) := by decide +kernel
theorem dX9_clifford_27 : decode cX9_clifford 27 = .ok (.iload_n 1, 1) := by decide +kernel
theorem dX9_clifford_28 : decode cX9_clifford 28 = .ok (.aaload, 1) := by decide +kernel
theorem dX9_clifford_29 : decode cX9_clifford 29 = .ok (.invokevirtual 166, 3) := by decide +kernel
theorem dX9_clifford_32 : decode cX9_clifford 32 = .ok (.ireturn, 1) := by decide +kernel
theorem dX9_take_0 : decode cX9_take 0 = .ok (.iload_n 1, 1) := by decide +kernel
theorem dX9_take_1 : decode cX9_take 1 = .ok (.invokestatic 90, 3) := by decide +kernel
theorem dX9_take_4 : decode cX9_take 4 = .ok (.ifCond .eq 13, 3) := by decide +kernel
theorem dX9_take_7 : decode cX9_take 7 = .ok (.iload_n 2, 1) := by decide +kernel
theorem dX9_take_8 : decode cX9_take 8 = .ok (.sipush 192, 3) := by decide +kernel
theorem dX9_take_11 : decode cX9_take 11 = .ok (.invokestatic 133, 3) := by decide +kernel
theorem dX9_take_14 : decode cX9_take 14 = .ok (.ifCond .ne 5, 3) := by decide +kernel
theorem dX9_take_17 : decode cX9_take 17 = .ok (.iconst (-1), 1) := by decide +kernel
theorem dX9_take_18 : decode cX9_take 18 = .ok (.ireturn, 1) := by decide +kernel
theorem dX9_take_19 : decode cX9_take 19 = .ok (.aload_n 0, 1) := by decide +kernel
theorem dX9_take_20 : decode cX9_take 20 = .ok (.getfield 49, 3) := by decide +kernel
theorem dX9_take_23 : decode cX9_take 23 = .ok (.invokevirtual 163, 3) := by decide +kernel
theorem dX9_take_26 : decode cX9_take 26 = .ok (.aload_n 0, 1) := by decide +kernel
theorem dX9_take_27 : decode cX9_take 27 = .ok (.getfield 49, 3) := by decide +kernel
theorem dX9_take_30 : decode cX9_take 30 = .ok (.iload_n 2, 1) := by decide +kernel
theorem dX9_take_31 : decode cX9_take 31 = .ok (.aload_n 0, 1) := by decide +kernel
theorem dX9_take_32 : decode cX9_take 32 = .ok (.getfield 77, 3) := by decide +kernel
theorem dX9_take_35 : decode cX9_take 35 = .ok (.invokevirtual 170, 3) := by decide +kernel
theorem dX9_take_38 : decode cX9_take 38 = .ok (.aload_n 0, 1) := by decide +kernel
theorem dX9_take_39 : decode cX9_take 39 = .ok (.iload_n 1, 1) := by decide +kernel
theorem dX9_take_40 : decode cX9_take 40 = .ok (.invokevirtual 116, 3) := by decide +kernel
theorem dX9_take_43 : decode cX9_take 43 = .ok (.ireturn, 1) := by decide +kernel
theorem dX9_leads_0 : decode cX9_leads 0 = .ok (.iload_n 1, 1) := by decide +kernel
theorem dX9_leads_1 : decode cX9_leads 1 = .ok (.sipush 192, 3) := by decide +kernel
theorem dX9_leads_4 : decode cX9_leads 4 = .ok (.invokestatic 133, 3) := by decide +kernel
theorem dX9_leads_7 : decode cX9_leads 7 = .ok (.ifCond .eq 21, 3) := by decide +kernel
theorem dX9_leads_10 : decode cX9_leads 10 = .ok (.iload_n 2, 1) := by decide +kernel
theorem dX9_leads_11 : decode cX9_leads 11 = .ok (.invokestatic 105, 3) := by decide +kernel
theorem dX9_leads_14 : decode cX9_leads 14 = .ok (.ifCond .eq 14, 3) := by decide +kernel
theorem dX9_leads_17 : decode cX9_leads 17 = .ok (.iload_n 2, 1) := by decide +kernel
theorem dX9_leads_18 : decode cX9_leads 18 = .ok (.iconst 1, 1) := by decide +kernel
theorem dX9_leads_19 : decode cX9_leads 19 = .ok (.if_icmp .eq 9, 3) := by decide +kernel
theorem dX9_leads_22 : decode cX9_leads 22 = .ok (.iload_n 2, 1) := by decide +kernel
theorem dX9_leads_23 : decode cX9_leads 23 = .ok (.bipush 6, 2) := by decide +kernel
theorem dX9_leads_25 : decode cX9_leads 25 = .ok (.if_icmp .ne 5, 3) := by decide +kernel
theorem dX9_leads_28 : decode cX9_leads 28 = .ok (.iconst (-1), 1) := by decide +kernel
theorem dX9_leads_29 : decode cX9_leads 29 = .ok (.ireturn, 1) := by decide +kernel
theorem dX9_leads_30 : decode cX9_leads 30 = .ok (.aload_n 0, 1) := by decide +kernel
theorem dX9_leads_31 : decode cX9_leads 31 = .ok (.getfield 49, 3) := by decide +kernel
theorem dX9_leads_34 : decode cX9_leads 34 = .ok (.invokevirtual 163, 3) := by decide +kernel
theorem dX9_leads_37 : decode cX9_leads 37 = .ok (.aload_n 0, 1) := by decide +kernel
theorem dX9_leads_38 : decode cX9_leads 38 = .ok (.getfield 49, 3) := by decide +kernel
theorem dX9_leads_41 : decode cX9_leads 41 = .ok (.iload_n 1, 1) := by decide +kernel
theorem dX9_leads_42 : decode cX9_leads 42 = .ok (.iload_n 2, 1) := by decide +kernel
theorem dX9_leads_43 : decode cX9_leads 43 = .ok (.invokevirtual 174, 3) := by decide +kernel
theorem dX9_leads_46 : decode cX9_leads 46 = .ok (.ireturn, 1) := by decide +kernel
theorem dX9_price_0 : decode cX9_price 0 = .ok (.iload_n 1, 1) := by decide +kernel
theorem dX9_price_1 : decode cX9_price 1 = .ok (.invokestatic 105, 3) := by decide +kernel
theorem dX9_price_4 : decode cX9_price 4 = .ok (.ifCond .eq 13, 3) := by decide +kernel
theorem dX9_price_7 : decode cX9_price 7 = .ok (.iload_n 2, 1) := by decide +kernel
theorem dX9_price_8 : decode cX9_price 8 = .ok (.ifCond .lt 9, 3) := by decide +kernel
theorem dX9_price_11 : decode cX9_price 11 = .ok (.iload_n 2, 1) := by decide +kernel
theorem dX9_price_12 : decode cX9_price 12 = .ok (.bipush 9, 2) := by decide +kernel
theorem dX9_price_14 : decode cX9_price 14 = .ok (.if_icmp .le 5, 3) := by decide +kernel
theorem dX9_price_17 : decode cX9_price 17 = .ok (.iconst (-1), 1) := by decide +kernel
theorem dX9_price_18 : decode cX9_price 18 = .ok (.ireturn, 1) := by decide +kernel
theorem dX9_price_19 : decode cX9_price 19 = .ok (.aload_n 0, 1) := by decide +kernel
theorem dX9_price_20 : decode cX9_price 20 = .ok (.getfield 12, 3) := by decide +kernel
theorem dX9_price_23 : decode cX9_price 23 = .ok (.getfield 177, 3) := by decide +kernel
theorem dX9_price_26 : decode cX9_price 26 = .ok (.iload_n 1, 1) := by decide +kernel
theorem dX9_price_27 : decode cX9_price 27 = .ok (.iaload, 1) := by decide +kernel
theorem dX9_price_28 : decode cX9_price 28 = .ok (.istore_n 3, 1) := by decide +kernel
theorem dX9_price_29 : decode cX9_price 29 = .ok (.aload_n 0, 1) := by decide +kernel
theorem dX9_price_30 : decode cX9_price 30 = .ok (.getfield 12, 3) := by decide +kernel
theorem dX9_price_33 : decode cX9_price 33 = .ok (.getfield 177, 3) := by decide +kernel
theorem dX9_price_36 : decode cX9_price 36 = .ok (.iload_n 1, 1) := by decide +kernel
theorem dX9_price_37 : decode cX9_price 37 = .ok (.iload_n 2, 1) := by decide +kernel
theorem dX9_price_38 : decode cX9_price 38 = .ok (.iastore, 1) := by decide +kernel
theorem dX9_price_39 : decode cX9_price 39 = .ok (.iload_n 3, 1) := by decide +kernel
theorem dX9_price_40 : decode cX9_price 40 = .ok (.ireturn, 1) := by decide +kernel
theorem dX9_cheapest_0 : decode cX9_cheapest 0 = .ok (.iload_n 1, 1) := by decide +kernel
theorem dX9_cheapest_1 : decode cX9_cheapest 1 = .ok (.sipush 192, 3) := by decide +kernel
theorem dX9_cheapest_4 : decode cX9_cheapest 4 = .ok (.invokestatic 133, 3) := by decide +kernel
theorem dX9_cheapest_7 : decode cX9_cheapest 7 = .ok (.ifCond .eq 9, 3) := by decide +kernel
theorem dX9_cheapest_10 : decode cX9_cheapest 10 = .ok (.iload_n 2, 1) := by decide +kernel
theorem dX9_cheapest_11 : decode cX9_cheapest 11 = .ok (.bipush (-2), 2) := by decide +kernel
theorem dX9_cheapest_13 : decode cX9_cheapest 13 = .ok (.if_icmp .ge 5, 3) := by decide +kernel
theorem dX9_cheapest_16 : decode cX9_cheapest 16 = .ok (.iconst (-1), 1) := by decide +kernel
theorem dX9_cheapest_17 : decode cX9_cheapest 17 = .ok (.ireturn, 1) := by decide +kernel
theorem dX9_cheapest_18 : decode cX9_cheapest 18 = .ok (.aload_n 0, 1) := by decide +kernel
theorem dX9_cheapest_19 : decode cX9_cheapest 19 = .ok (.getfield 49, 3) := by decide +kernel
theorem dX9_cheapest_22 : decode cX9_cheapest 22 = .ok (.aload_n 0, 1) := by decide +kernel
theorem dX9_cheapest_23 : decode cX9_cheapest 23 = .ok (.getfield 12, 3) := by decide +kernel
theorem dX9_cheapest_26 : decode cX9_cheapest 26 = .ok (.getfield 177, 3) := by decide +kernel
theorem dX9_cheapest_29 : decode cX9_cheapest 29 = .ok (.invokevirtual 181, 3) := by decide +kernel
theorem dX9_cheapest_32 : decode cX9_cheapest 32 = .ok (.iload_n 2, 1) := by decide +kernel
theorem dX9_cheapest_33 : decode cX9_cheapest 33 = .ok (.bipush (-2), 2) := by decide +kernel
theorem dX9_cheapest_35 : decode cX9_cheapest 35 = .ok (.if_icmp .ne 12, 3) := by decide +kernel
theorem dX9_cheapest_38 : decode cX9_cheapest 38 = .ok (.aload_n 0, 1) := by decide +kernel
theorem dX9_cheapest_39 : decode cX9_cheapest 39 = .ok (.getfield 49, 3) := by decide +kernel
theorem dX9_cheapest_42 : decode cX9_cheapest 42 = .ok (.iload_n 1, 1) := by decide +kernel
theorem dX9_cheapest_43 : decode cX9_cheapest 43 = .ok (.invokevirtual 185, 3) := by decide +kernel
theorem dX9_cheapest_46 : decode cX9_cheapest 46 = .ok (.ireturn, 1) := by decide +kernel
theorem dX9_cheapest_47 : decode cX9_cheapest 47 = .ok (.iload_n 2, 1) := by decide +kernel
theorem dX9_cheapest_48 : decode cX9_cheapest 48 = .ok (.iconst (-1), 1) := by decide +kernel
theorem dX9_cheapest_49 : decode cX9_cheapest 49 = .ok (.if_icmp .ne 14, 3) := by decide +kernel
theorem dX9_cheapest_52 : decode cX9_cheapest 52 = .ok (.aload_n 0, 1) := by decide +kernel
theorem dX9_cheapest_53 : decode cX9_cheapest 53 = .ok (.getfield 49, 3) := by decide +kernel
theorem dX9_cheapest_56 : decode cX9_cheapest 56 = .ok (.iload_n 1, 1) := by decide +kernel
theorem dX9_cheapest_57 : decode cX9_cheapest 57 = .ok (.invokevirtual 188, 3) := by decide +kernel
theorem dX9_cheapest_60 : decode cX9_cheapest 60 = .ok (.goto 12, 3) := by decide +kernel
theorem dX9_cheapest_63 : decode cX9_cheapest 63 = .ok (.aload_n 0, 1) := by decide +kernel
theorem dX9_cheapest_64 : decode cX9_cheapest 64 = .ok (.getfield 49, 3) := by decide +kernel
theorem dX9_cheapest_67 : decode cX9_cheapest 67 = .ok (.iload_n 1, 1) := by decide +kernel
theorem dX9_cheapest_68 : decode cX9_cheapest 68 = .ok (.iload_n 2, 1) := by decide +kernel
theorem dX9_cheapest_69 : decode cX9_cheapest 69 = .ok (.invokevirtual 191, 3) := by decide +kernel
theorem dX9_cheapest_72 : decode cX9_cheapest 72 = .ok (.ireturn, 1) := by decide +kernel
theorem dX9_push_0 : decode cX9_push 0 = .ok (.iload_n 1, 1) := by decide +kernel
theorem dX9_push_1 : decode cX9_push 1 = .ok (.invokestatic 194, 3) := by decide +kernel
theorem dX9_push_4 : decode cX9_push 4 = .ok (.ifCond .eq 10, 3) := by decide +kernel
theorem dX9_push_7 : decode cX9_push 7 = .ok (.iload_n 2, 1) := by decide +kernel
theorem dX9_push_8 : decode cX9_push 8 = .ok (.invokestatic 105, 3) := by decide +kernel
theorem dX9_push_11 : decode cX9_push 11 = .ok (.ifCond .ne 5, 3) := by decide +kernel
theorem dX9_push_14 : decode cX9_push 14 = .ok (.iconst (-1), 1) := by decide +kernel
theorem dX9_push_15 : decode cX9_push 15 = .ok (.ireturn, 1) := by decide +kernel
theorem dX9_push_16 : decode cX9_push 16 = .ok (.aload_n 0, 1) := by decide +kernel
theorem dX9_push_17 : decode cX9_push 17 = .ok (.getfield 70, 3) := by decide +kernel
theorem dX9_push_20 : decode cX9_push 20 = .ok (.aload_n 0, 1) := by decide +kernel
theorem dX9_push_21 : decode cX9_push 21 = .ok (.getfield 12, 3) := by decide +kernel
theorem dX9_push_24 : decode cX9_push 24 = .ok (.getfield 197, 3) := by decide +kernel
theorem dX9_push_27 : decode cX9_push 27 = .ok (.iload_n 1, 1) := by decide +kernel
theorem dX9_push_28 : decode cX9_push 28 = .ok (.aaload, 1) := by decide +kernel
theorem dX9_push_29 : decode cX9_push 29 = .ok (.invokevirtual 201, 3) := by decide +kernel
theorem dX9_push_32 : decode cX9_push 32 = .ok (.aload_n 0, 1) := by decide +kernel
theorem dX9_push_33 : decode cX9_push 33 = .ok (.getfield 70, 3) := by decide +kernel
theorem dX9_push_36 : decode cX9_push 36 = .ok (.iload_n 2, 1) := by decide +kernel
theorem dX9_push_37 : decode cX9_push 37 = .ok (.invokevirtual 204, 3) := by decide +kernel
theorem dX9_push_40 : decode cX9_push 40 = .ok (.ifCond .eq 11, 3) := by decide +kernel
theorem dX9_push_43 : decode cX9_push 43 = .ok (.aload_n 0, 1) := by decide +kernel
theorem dX9_push_44 : decode cX9_push 44 = .ok (.iload_n 1, 1) := by decide +kernel
theorem dX9_push_45 : decode cX9_push 45 = .ok (.invokevirtual 207, 3) := by decide +kernel
theorem dX9_push_48 : decode cX9_push 48 = .ok (.goto 5, 3) := by decide +kernel
theorem dX9_push_51 : decode cX9_push 51 = .ok (.bipush (-3), 2) := by decide +kernel
theorem dX9_push_53 : decode cX9_push 53 = .ok (.ireturn, 1) := by decide +kernel
theorem dX9_pull_0 : decode cX9_pull 0 = .ok (.iload_n 1, 1) := by decide +kernel
theorem dX9_pull_1 : decode cX9_pull 1 = .ok (.invokestatic 194, 3) := by decide +kernel
theorem dX9_pull_4 : decode cX9_pull 4 = .ok (.ifCond .ne 5, 3) := by decide +kernel
theorem dX9_pull_7 : decode cX9_pull 7 = .ok (.iconst (-1), 1) := by decide +kernel
theorem dX9_pull_8 : decode cX9_pull 8 = .ok (.ireturn, 1) := by decide +kernel
theorem dX9_pull_9 : decode cX9_pull 9 = .ok (.aload_n 0, 1) := by decide +kernel
theorem dX9_pull_10 : decode cX9_pull 10 = .ok (.getfield 70, 3) := by decide +kernel
theorem dX9_pull_13 : decode cX9_pull 13 = .ok (.aload_n 0, 1) := by decide +kernel
theorem dX9_pull_14 : decode cX9_pull 14 = .ok (.getfield 12, 3) := by decide +kernel
theorem dX9_pull_17 : decode cX9_pull 17 = .ok (.getfield 197, 3) := by decide +kernel
theorem dX9_pull_20 : decode cX9_pull 20 = .ok (.iload_n 1, 1) := by decide +kernel
theorem dX9_pull_21 : decode cX9_pull 21 = .ok (.aaload, 1) := by decide +kernel
theorem dX9_pull_22 : decode cX9_pull 22 = .ok (.invokevirtual 201, 3) := by decide +kernel
theorem dX9_pull_25 : decode cX9_pull 25 = .ok (.aload_n 0, 1) := by decide +kernel
theorem dX9_pull_26 : decode cX9_pull 26 = .ok (.getfield 70, 3) := by decide +kernel
theorem dX9_pull_29 : decode cX9_pull 29 = .ok (.aload_n 0, 1) := by decide +kernel
theorem dX9_pull_30 : decode cX9_pull 30 = .ok (.getfield 70, 3) := by decide +kernel
theorem dX9_pull_33 : decode cX9_pull 33 = .ok (.getfield 210, 3) := by decide +kernel
theorem dX9_pull_36 : decode cX9_pull 36 = .ok (.iconst 1, 1) := by decide +kernel
theorem dX9_pull_37 : decode cX9_pull 37 = .ok (.isub, 1) := by decide +kernel
theorem dX9_pull_38 : decode cX9_pull 38 = .ok (.invokevirtual 213, 3) := by decide +kernel
theorem dX9_pull_41 : decode cX9_pull 41 = .ok (.istore_n 2, 1) := by decide +kernel
theorem dX9_pull_42 : decode cX9_pull 42 = .ok (.iload_n 2, 1) := by decide +kernel
theorem dX9_pull_43 : decode cX9_pull 43 = .ok (.ifCond .ge 6, 3) := by decide +kernel
theorem dX9_pull_46 : decode cX9_pull 46 = .ok (.bipush (-2), 2) := by decide +kernel
theorem dX9_pull_48 : decode cX9_pull 48 = .ok (.ireturn, 1) := by decide +kernel
theorem dX9_pull_49 : decode cX9_pull 49 = .ok (.aload_n 0, 1) := by decide +kernel
theorem dX9_pull_50 : decode cX9_pull 50 = .ok (.getfield 70, 3) := by decide +kernel
theorem dX9_pull_53 : decode cX9_pull 53 = .ok (.aload_n 0, 1) := by decide +kernel
theorem dX9_pull_54 : decode cX9_pull 54 = .ok (.getfield 70, 3) := by decide +kernel
theorem dX9_pull_57 : decode cX9_pull 57 = .ok (.getfield 210, 3) := by decide +kernel
theorem dX9_pull_60 : decode cX9_pull 60 = .ok (.iconst 1, 1) := by decide +kernel
theorem dX9_pull_61 : decode cX9_pull 61 = .ok (.isub, 1) := by decide +kernel
theorem dX9_pull_62 : decode cX9_pull 62 = .ok (.iconst 1, 1) := by decide +kernel
theorem dX9_pull_63 : decode cX9_pull 63 = .ok (.invokevirtual 216, 3) := by decide +kernel
theorem dX9_pull_66 : decode cX9_pull 66 = .ok (.aload_n 0, 1) := by decide +kernel
theorem dX9_pull_67 : decode cX9_pull 67 = .ok (.iload_n 1, 1) := by decide +kernel
theorem dX9_pull_68 : decode cX9_pull 68 = .ok (.invokevirtual 207, 3) := by decide +kernel
theorem dX9_pull_71 : decode cX9_pull 71 = .ok (.pop, 1) := by decide +kernel
theorem dX9_pull_72 : decode cX9_pull 72 = .ok (.iload_n 2, 1) := by decide +kernel
theorem dX9_pull_73 : decode cX9_pull 73 = .ok (.ireturn, 1) := by decide +kernel
theorem dX9_word_0 : decode cX9_word 0 = .ok (.iload_n 1, 1) := by decide +kernel
theorem dX9_word_1 : decode cX9_word 1 = .ok (.invokestatic 194, 3) := by decide +kernel
theorem dX9_word_4 : decode cX9_word 4 = .ok (.ifCond .eq 9, 3) := by decide +kernel
theorem dX9_word_7 : decode cX9_word 7 = .ok (.iload_n 2, 1) := by decide +kernel
theorem dX9_word_8 : decode cX9_word 8 = .ok (.bipush (-2), 2) := by decide +kernel
theorem dX9_word_10 : decode cX9_word 10 = .ok (.if_icmp .ge 5, 3) := by decide +kernel
theorem dX9_word_13 : decode cX9_word 13 = .ok (.iconst (-1), 1) := by decide +kernel
theorem dX9_word_14 : decode cX9_word 14 = .ok (.ireturn, 1) := by decide +kernel
theorem dX9_word_15 : decode cX9_word 15 = .ok (.iload_n 2, 1) := by decide +kernel
theorem dX9_word_16 : decode cX9_word 16 = .ok (.bipush (-2), 2) := by decide +kernel
theorem dX9_word_18 : decode cX9_word 18 = .ok (.if_icmp .ne 23, 3) := by decide +kernel
theorem dX9_word_21 : decode cX9_word 21 = .ok (.aload_n 0, 1) := by decide +kernel
theorem dX9_word_22 : decode cX9_word 22 = .ok (.getfield 12, 3) := by decide +kernel
theorem dX9_word_25 : decode cX9_word 25 = .ok (.getfield 197, 3) := by decide +kernel
theorem dX9_word_28 : decode cX9_word 28 = .ok (.iload_n 1, 1) := by decide +kernel
theorem dX9_word_29 : decode cX9_word 29 = .ok (.aaload, 1) := by decide +kernel
theorem dX9_word_30 : decode cX9_word 30 = .ok (.aload_n 0, 1) := by decide +kernel
theorem dX9_word_31 : decode cX9_word 31 = .ok (.getfield 12, 3) := by decide +kernel
theorem dX9_word_34 : decode cX9_word 34 = .ok (.getfield 177, 3) := by decide +kernel
theorem dX9_word_37 : decode cX9_word 37 = .ok (.invokevirtual 220, 3) := by decide +kernel
theorem dX9_word_40 : decode cX9_word 40 = .ok (.ireturn, 1) := by decide +kernel
theorem dX9_word_41 : decode cX9_word 41 = .ok (.iload_n 2, 1) := by decide +kernel
theorem dX9_word_42 : decode cX9_word 42 = .ok (.iconst (-1), 1) := by decide +kernel
theorem dX9_word_43 : decode cX9_word 43 = .ok (.if_icmp .ne 18, 3) := by decide +kernel
theorem dX9_word_46 : decode cX9_word 46 = .ok (.aload_n 0, 1) := by decide +kernel
theorem dX9_word_47 : decode cX9_word 47 = .ok (.getfield 12, 3) := by decide +kernel
theorem dX9_word_50 : decode cX9_word 50 = .ok (.getfield 197, 3) := by decide +kernel
theorem dX9_word_53 : decode cX9_word 53 = .ok (.iload_n 1, 1) := by decide +kernel
theorem dX9_word_54 : decode cX9_word 54 = .ok (.aaload, 1) := by decide +kernel
theorem dX9_word_55 : decode cX9_word 55 = .ok (.getfield 210, 3) := by decide +kernel
theorem dX9_word_58 : decode cX9_word 58 = .ok (.goto 16, 3) := by decide +kernel
theorem dX9_word_61 : decode cX9_word 61 = .ok (.aload_n 0, 1) := by decide +kernel
theorem dX9_word_62 : decode cX9_word 62 = .ok (.getfield 12, 3) := by decide +kernel
theorem dX9_word_65 : decode cX9_word 65 = .ok (.getfield 197, 3) := by decide +kernel
theorem dX9_word_68 : decode cX9_word 68 = .ok (.iload_n 1, 1) := by decide +kernel
theorem dX9_word_69 : decode cX9_word 69 = .ok (.aaload, 1) := by decide +kernel
theorem dX9_word_70 : decode cX9_word 70 = .ok (.iload_n 2, 1) := by decide +kernel
theorem dX9_word_71 : decode cX9_word 71 = .ok (.invokevirtual 213, 3) := by decide +kernel
theorem dX9_word_74 : decode cX9_word 74 = .ok (.ireturn, 1) := by decide +kernel
theorem dX9_value_0 : decode cX9_value 0 = .ok (.iload_n 1, 1) := by decide +kernel
theorem dX9_value_1 : decode cX9_value 1 = .ok (.invokestatic 90, 3) := by decide +kernel
theorem dX9_value_4 : decode cX9_value 4 = .ok (.ifCond .eq 10, 3) := by decide +kernel
theorem dX9_value_7 : decode cX9_value 7 = .ok (.iload_n 2, 1) := by decide +kernel
theorem dX9_value_8 : decode cX9_value 8 = .ok (.invokestatic 194, 3) := by decide +kernel
theorem dX9_value_11 : decode cX9_value 11 = .ok (.ifCond .ne 5, 3) := by decide +kernel
theorem dX9_value_14 : decode cX9_value 14 = .ok (.iconst (-1), 1) := by decide +kernel
theorem dX9_value_15 : decode cX9_value 15 = .ok (.ireturn, 1) := by decide +kernel
theorem dX9_value_16 : decode cX9_value 16 = .ok (.aload_n 0, 1) := by decide +kernel
theorem dX9_value_17 : decode cX9_value 17 = .ok (.getfield 77, 3) := by decide +kernel
theorem dX9_value_20 : decode cX9_value 20 = .ok (.invokevirtual 102, 3) := by decide +kernel
theorem dX9_value_23 : decode cX9_value 23 = .ok (.aload_n 0, 1) := by decide +kernel
theorem dX9_value_24 : decode cX9_value 24 = .ok (.getfield 77, 3) := by decide +kernel
theorem dX9_value_27 : decode cX9_value 27 = .ok (.aload_n 0, 1) := by decide +kernel
theorem dX9_value_28 : decode cX9_value 28 = .ok (.getfield 12, 3) := by decide +kernel
theorem dX9_value_31 : decode cX9_value 31 = .ok (.getfield 197, 3) := by decide +kernel
theorem dX9_value_34 : decode cX9_value 34 = .ok (.iload_n 2, 1) := by decide +kernel
theorem dX9_value_35 : decode cX9_value 35 = .ok (.aaload, 1) := by decide +kernel
theorem dX9_value_36 : decode cX9_value 36 = .ok (.iconst 0, 1) := by decide +kernel
theorem dX9_value_37 : decode cX9_value 37 = .ok (.bipush 60, 2) := by decide +kernel
theorem dX9_value_39 : decode cX9_value 39 = .ok (.invokevirtual 224, 3) := by decide +kernel
theorem dX9_value_42 : decode cX9_value 42 = .ok (.aload_n 0, 1) := by decide +kernel
theorem dX9_value_43 : decode cX9_value 43 = .ok (.iload_n 1, 1) := by decide +kernel
theorem dX9_value_44 : decode cX9_value 44 = .ok (.invokevirtual 116, 3) := by decide +kernel
theorem dX9_value_47 : decode cX9_value 47 = .ok (.ireturn, 1) := by decide +kernel
theorem dX9_shorter_0 : decode cX9_shorter 0 = .ok (.iload_n 1, 1) := by decide +kernel
theorem dX9_shorter_1 : decode cX9_shorter 1 = .ok (.invokestatic 194, 3) := by decide +kernel
theorem dX9_shorter_4 : decode cX9_shorter 4 = .ok (.ifCond .ne 5, 3) := by decide +kernel
theorem dX9_shorter_7 : decode cX9_shorter 7 = .ok (.iconst (-1), 1) := by decide +kernel
theorem dX9_shorter_8 : decode cX9_shorter 8 = .ok (.ireturn, 1) := by decide +kernel
theorem dX9_shorter_9 : decode cX9_shorter 9 = .ok (.aload_n 0, 1) := by decide +kernel
theorem dX9_shorter_10 : decode cX9_shorter 10 = .ok (.getfield 70, 3) := by decide +kernel
theorem dX9_shorter_13 : decode cX9_shorter 13 = .ok (.aload_n 0, 1) := by decide +kernel
theorem dX9_shorter_14 : decode cX9_shorter 14 = .ok (.getfield 12, 3) := by decide +kernel
theorem dX9_shorter_17 : decode cX9_shorter 17 = .ok (.getfield 197, 3) := by decide +kernel
theorem dX9_shorter_20 : decode cX9_shorter 20 = .ok (.iload_n 1, 1) := by decide +kernel
theorem dX9_shorter_21 : decode cX9_shorter 21 = .ok (.aaload, 1) := by decide +kernel
theorem dX9_shorter_22 : decode cX9_shorter 22 = .ok (.invokevirtual 201, 3) := by decide +kernel
theorem dX9_shorter_25 : decode cX9_shorter 25 = .ok (.aload_n 0, 1) := by decide +kernel
theorem dX9_shorter_26 : decode cX9_shorter 26 = .ok (.getfield 70, 3) := by decide +kernel
theorem dX9_shorter_29 : decode cX9_shorter 29 = .ok (.invokevirtual 228, 3) := by decide +kernel
theorem dX9_shorter_32 : decode cX9_shorter 32 = .ok (.aload_n 0, 1) := by decide +kernel
theorem dX9_shorter_33 : decode cX9_shorter 33 = .ok (.iload_n 1, 1) := by decide +kernel
theorem dX9_shorter_34 : decode cX9_shorter 34 = .ok (.invokevirtual 207, 3) := by decide +kernel
theorem dX9_shorter_37 : decode cX9_shorter 37 = .ok (.ireturn, 1) := by decide +kernel
theorem dX9_normal_0 : decode cX9_normal 0 = .ok (.iload_n 1, 1) := by decide +kernel
theorem dX9_normal_1 : decode cX9_normal 1 = .ok (.invokestatic 194, 3) := by decide +kernel
theorem dX9_normal_4 : decode cX9_normal 4 = .ok (.ifCond .eq 10, 3) := by decide +kernel
theorem dX9_normal_7 : decode cX9_normal 7 = .ok (.iload_n 2, 1) := by decide +kernel
theorem dX9_normal_8 : decode cX9_normal 8 = .ok (.invokestatic 90, 3) := by decide +kernel
theorem dX9_normal_11 : decode cX9_normal 11 = .ok (.ifCond .ne 5, 3) := by decide +kernel
theorem dX9_normal_14 : decode cX9_normal 14 = .ok (.iconst (-1), 1) := by decide +kernel
theorem dX9_normal_15 : decode cX9_normal 15 = .ok (.ireturn, 1) := by decide +kernel
theorem dX9_normal_16 : decode cX9_normal 16 = .ok (.aload_n 0, 1) := by decide +kernel
theorem dX9_normal_17 : decode cX9_normal 17 = .ok (.getfield 49, 3) := by decide +kernel
theorem dX9_normal_20 : decode cX9_normal 20 = .ok (.aload_n 0, 1) := by decide +kernel
theorem dX9_normal_21 : decode cX9_normal 21 = .ok (.getfield 12, 3) := by decide +kernel
theorem dX9_normal_24 : decode cX9_normal 24 = .ok (.getfield 177, 3) := by decide +kernel
theorem dX9_normal_27 : decode cX9_normal 27 = .ok (.invokevirtual 181, 3) := by decide +kernel
theorem dX9_normal_30 : decode cX9_normal 30 = .ok (.aload_n 0, 1) := by decide +kernel
theorem dX9_normal_31 : decode cX9_normal 31 = .ok (.getfield 63, 3) := by decide +kernel
theorem dX9_normal_34 : decode cX9_normal 34 = .ok (.aload_n 0, 1) := by decide +kernel
theorem dX9_normal_35 : decode cX9_normal 35 = .ok (.getfield 12, 3) := by decide +kernel
theorem dX9_normal_38 : decode cX9_normal 38 = .ok (.getfield 94, 3) := by decide +kernel
theorem dX9_normal_41 : decode cX9_normal 41 = .ok (.iload_n 2, 1) := by decide +kernel
theorem dX9_normal_42 : decode cX9_normal 42 = .ok (.aaload, 1) := by decide +kernel
theorem dX9_normal_43 : decode cX9_normal 43 = .ok (.aload_n 0, 1) := by decide +kernel
theorem dX9_normal_44 : decode cX9_normal 44 = .ok (.getfield 49, 3) := by decide +kernel
theorem dX9_normal_47 : decode cX9_normal 47 = .ok (.aload_n 0, 1) := by decide +kernel
theorem dX9_normal_48 : decode cX9_normal 48 = .ok (.getfield 70, 3) := by decide +kernel
theorem dX9_normal_51 : decode cX9_normal 51 = .ok (.invokevirtual 231, 3) := by decide +kernel
theorem dX9_normal_54 : decode cX9_normal 54 = .ok (.ifCond .eq 11, 3) := by decide +kernel
theorem dX9_normal_57 : decode cX9_normal 57 = .ok (.aload_n 0, 1) := by decide +kernel
theorem dX9_normal_58 : decode cX9_normal 58 = .ok (.iload_n 1, 1) := by decide +kernel
theorem dX9_normal_59 : decode cX9_normal 59 = .ok (.invokevirtual 207, 3) := by decide +kernel
theorem dX9_normal_62 : decode cX9_normal 62 = .ok (.goto 5, 3) := by decide +kernel
theorem dX9_normal_65 : decode cX9_normal 65 = .ok (.bipush (-3), 2) := by decide +kernel
theorem dX9_normal_67 : decode cX9_normal 67 = .ok (.ireturn, 1) := by decide +kernel
theorem dX9_fits_0 : decode cX9_fits 0 = .ok (.iload_n 1, 1) := by decide +kernel
theorem dX9_fits_1 : decode cX9_fits 1 = .ok (.invokestatic 194, 3) := by decide +kernel
theorem dX9_fits_4 : decode cX9_fits 4 = .ok (.ifCond .eq 29, 3) := by decide +kernel
theorem dX9_fits_7 : decode cX9_fits 7 = .ok (.iload_n 2, 1) := by decide +kernel
theorem dX9_fits_8 : decode cX9_fits 8 = .ok (.aload_n 0, 1) := by decide +kernel
theorem dX9_fits_9 : decode cX9_fits 9 = .ok (.getfield 12, 3) := by decide +kernel
theorem dX9_fits_12 : decode cX9_fits 12 = .ok (.getfield 197, 3) := by decide +kernel
theorem dX9_fits_15 : decode cX9_fits 15 = .ok (.iload_n 1, 1) := by decide +kernel
theorem dX9_fits_16 : decode cX9_fits 16 = .ok (.aaload, 1) := by decide +kernel
theorem dX9_fits_17 : decode cX9_fits 17 = .ok (.getfield 210, 3) := by decide +kernel
theorem dX9_fits_20 : decode cX9_fits 20 = .ok (.invokestatic 133, 3) := by decide +kernel
theorem dX9_fits_23 : decode cX9_fits 23 = .ok (.ifCond .eq 10, 3) := by decide +kernel
theorem dX9_fits_26 : decode cX9_fits 26 = .ok (.iload_n 3, 1) := by decide +kernel
theorem dX9_fits_27 : decode cX9_fits 27 = .ok (.invokestatic 90, 3) := by decide +kernel
theorem dX9_fits_30 : decode cX9_fits 30 = .ok (.ifCond .ne 5, 3) := by decide +kernel
theorem dX9_fits_33 : decode cX9_fits 33 = .ok (.iconst (-1), 1) := by decide +kernel
theorem dX9_fits_34 : decode cX9_fits 34 = .ok (.ireturn, 1) := by decide +kernel
theorem dX9_fits_35 : decode cX9_fits 35 = .ok (.aload_n 0, 1) := by decide +kernel
theorem dX9_fits_36 : decode cX9_fits 36 = .ok (.getfield 12, 3) := by decide +kernel
theorem dX9_fits_39 : decode cX9_fits 39 = .ok (.getfield 197, 3) := by decide +kernel
theorem dX9_fits_42 : decode cX9_fits 42 = .ok (.iload_n 1, 1) := by decide +kernel
theorem dX9_fits_43 : decode cX9_fits 43 = .ok (.aaload, 1) := by decide +kernel
theorem dX9_fits_44 : decode cX9_fits 44 = .ok (.astore 4, 2) := by decide +kernel
theorem dX9_fits_46 : decode cX9_fits 46 = .ok (.aload_n 0, 1) := by decide +kernel
theorem dX9_fits_47 : decode cX9_fits 47 = .ok (.getfield 81, 3) := by decide +kernel
theorem dX9_fits_50 : decode cX9_fits 50 = .ok (.invokevirtual 102, 3) := by decide +kernel
theorem dX9_fits_53 : decode cX9_fits 53 = .ok (.aload_n 0, 1) := by decide +kernel
theorem dX9_fits_54 : decode cX9_fits 54 = .ok (.getfield 81, 3) := by decide +kernel
theorem dX9_fits_57 : decode cX9_fits 57 = .ok (.aload 4, 2) := by decide +kernel
theorem dX9_fits_59 : decode cX9_fits 59 = .ok (.iconst 0, 1) := by decide +kernel
theorem dX9_fits_60 : decode cX9_fits 60 = .ok (.iload_n 2, 1) := by decide +kernel
theorem dX9_fits_61 : decode cX9_fits 61 = .ok (.invokevirtual 224, 3) := by decide +kernel
theorem dX9_fits_64 : decode cX9_fits 64 = .ok (.aload_n 0, 1) := by decide +kernel
theorem dX9_fits_65 : decode cX9_fits 65 = .ok (.getfield 84, 3) := by decide +kernel
theorem dX9_fits_68 : decode cX9_fits 68 = .ok (.invokevirtual 102, 3) := by decide +kernel
theorem dX9_fits_71 : decode cX9_fits 71 = .ok (.aload_n 0, 1) := by decide +kernel
theorem dX9_fits_72 : decode cX9_fits 72 = .ok (.getfield 84, 3) := by decide +kernel
theorem dX9_fits_75 : decode cX9_fits 75 = .ok (.aload 4, 2) := by decide +kernel
theorem dX9_fits_77 : decode cX9_fits 77 = .ok (.iload_n 2, 1) := by decide +kernel
theorem dX9_fits_78 : decode cX9_fits 78 = .ok (.iconst 1, 1) := by decide +kernel
theorem dX9_fits_79 : decode cX9_fits 79 = .ok (.iadd, 1) := by decide +kernel
theorem dX9_fits_80 : decode cX9_fits 80 = .ok (.aload 4, 2) := by decide +kernel
theorem dX9_fits_82 : decode cX9_fits 82 = .ok (.getfield 210, 3) := by decide +kernel
theorem dX9_fits_85 : decode cX9_fits 85 = .ok (.invokevirtual 224, 3) := by decide +kernel
theorem dX9_fits_88 : decode cX9_fits 88 = .ok (.iconst 0, 1) := by decide +kernel
theorem dX9_fits_89 : decode cX9_fits 89 = .ok (.istore 5, 2) := by decide +kernel
theorem dX9_fits_91 : decode cX9_fits 91 = .ok (.iconst 0, 1) := by decide +kernel
theorem dX9_fits_92 : decode cX9_fits 92 = .ok (.istore 6, 2) := by decide +kernel
theorem dX9_fits_94 : decode cX9_fits 94 = .ok (.iload 6, 2) := by decide +kernel
theorem dX9_fits_96 : decode cX9_fits 96 = .ok (.bipush 7, 2) := by decide +kernel
theorem dX9_fits_98 : decode cX9_fits 98 = .ok (.if_icmp .ge 79, 3) := by decide +kernel
theorem dX9_fits_101 : decode cX9_fits 101 = .ok (.aload_n 0, 1) := by decide +kernel
theorem dX9_fits_102 : decode cX9_fits 102 = .ok (.getfield 87, 3) := by decide +kernel
theorem dX9_fits_105 : decode cX9_fits 105 = .ok (.aload_n 0, 1) := by decide +kernel
theorem dX9_fits_106 : decode cX9_fits 106 = .ok (.getfield 81, 3) := by decide +kernel
theorem dX9_fits_109 : decode cX9_fits 109 = .ok (.invokevirtual 108, 3) := by decide +kernel
theorem dX9_fits_112 : decode cX9_fits 112 = .ok (.aload_n 0, 1) := by decide +kernel
theorem dX9_fits_113 : decode cX9_fits 113 = .ok (.getfield 87, 3) := by decide +kernel
theorem dX9_fits_116 : decode cX9_fits 116 = .ok (.iload 6, 2) := by decide +kernel
theorem dX9_fits_118 : decode cX9_fits 118 = .ok (.invokevirtual 112, 3) := by decide +kernel
theorem dX9_fits_121 : decode cX9_fits 121 = .ok (.aload_n 0, 1) := by decide +kernel
theorem dX9_fits_122 : decode cX9_fits 122 = .ok (.getfield 77, 3) := by decide +kernel
theorem dX9_fits_125 : decode cX9_fits 125 = .ok (.aload_n 0, 1) := by decide +kernel
theorem dX9_fits_126 : decode cX9_fits 126 = .ok (.getfield 87, 3) := by decide +kernel
theorem dX9_fits_129 : decode cX9_fits 129 = .ok (.aload_n 0, 1) := by decide +kernel
theorem dX9_fits_130 : decode cX9_fits 130 = .ok (.getfield 84, 3) := by decide +kernel
theorem dX9_fits_133 : decode cX9_fits 133 = .ok (.invokevirtual 123, 3) := by decide +kernel
theorem dX9_fits_136 : decode cX9_fits 136 = .ok (.aload_n 0, 1) := by decide +kernel
theorem dX9_fits_137 : decode cX9_fits 137 = .ok (.getfield 77, 3) := by decide +kernel
theorem dX9_fits_140 : decode cX9_fits 140 = .ok (.invokevirtual 127, 3) := by decide +kernel
theorem dX9_fits_143 : decode cX9_fits 143 = .ok (.aload_n 0, 1) := by decide +kernel
theorem dX9_fits_144 : decode cX9_fits 144 = .ok (.getfield 77, 3) := by decide +kernel
theorem dX9_fits_147 : decode cX9_fits 147 = .ok (.aload_n 0, 1) := by decide +kernel
theorem dX9_fits_148 : decode cX9_fits 148 = .ok (.getfield 12, 3) := by decide +kernel
theorem dX9_fits_151 : decode cX9_fits 151 = .ok (.getfield 94, 3) := by decide +kernel
theorem dX9_fits_154 : decode cX9_fits 154 = .ok (.iload_n 3, 1) := by decide +kernel
theorem dX9_fits_155 : decode cX9_fits 155 = .ok (.aaload, 1) := by decide +kernel
theorem dX9_fits_156 : decode cX9_fits 156 = .ok (.invokevirtual 147, 3) := by decide +kernel
theorem dX9_fits_159 : decode cX9_fits 159 = .ok (.ifCond .eq 12, 3) := by decide +kernel
theorem dX9_fits_162 : decode cX9_fits 162 = .ok (.iload 5, 2) := by decide +kernel
theorem dX9_fits_164 : decode cX9_fits 164 = .ok (.iconst 1, 1) := by decide +kernel
theorem dX9_fits_165 : decode cX9_fits 165 = .ok (.iload 6, 2) := by decide +kernel
theorem dX9_fits_167 : decode cX9_fits 167 = .ok (.ishl, 1) := by decide +kernel
theorem dX9_fits_168 : decode cX9_fits 168 = .ok (.ior, 1) := by decide +kernel
theorem dX9_fits_169 : decode cX9_fits 169 = .ok (.istore 5, 2) := by decide +kernel
theorem dX9_fits_171 : decode cX9_fits 171 = .ok (.iinc 6 1, 3) := by decide +kernel
theorem dX9_fits_174 : decode cX9_fits 174 = .ok (.goto (-80), 3) := by decide +kernel
theorem dX9_fits_177 : decode cX9_fits 177 = .ok (.iload 5, 2) := by decide +kernel
theorem dX9_fits_179 : decode cX9_fits 179 = .ok (.ireturn, 1) := by decide +kernel
theorem dX9_parts_0 : decode cX9_parts 0 = .ok (.iload_n 1, 1) := by decide +kernel
theorem dX9_parts_1 : decode cX9_parts 1 = .ok (.invokestatic 194, 3) := by decide +kernel
theorem dX9_parts_4 : decode cX9_parts 4 = .ok (.ifCond .eq 10, 3) := by decide +kernel
theorem dX9_parts_7 : decode cX9_parts 7 = .ok (.iload_n 2, 1) := by decide +kernel
theorem dX9_parts_8 : decode cX9_parts 8 = .ok (.invokestatic 194, 3) := by decide +kernel
theorem dX9_parts_11 : decode cX9_parts 11 = .ok (.ifCond .ne 5, 3) := by decide +kernel
theorem dX9_parts_14 : decode cX9_parts 14 = .ok (.iconst (-1), 1) := by decide +kernel
theorem dX9_parts_15 : decode cX9_parts 15 = .ok (.ireturn, 1) := by decide +kernel
theorem dX9_parts_16 : decode cX9_parts 16 = .ok (.aload_n 0, 1) := by decide +kernel
theorem dX9_parts_17 : decode cX9_parts 17 = .ok (.getfield 81, 3) := by decide +kernel
theorem dX9_parts_20 : decode cX9_parts 20 = .ok (.invokevirtual 102, 3) := by decide +kernel
theorem dX9_parts_23 : decode cX9_parts 23 = .ok (.aload_n 0, 1) := by decide +kernel
theorem dX9_parts_24 : decode cX9_parts 24 = .ok (.getfield 87, 3) := by decide +kernel
theorem dX9_parts_27 : decode cX9_parts 27 = .ok (.invokevirtual 102, 3) := by decide +kernel
theorem dX9_parts_30 : decode cX9_parts 30 = .ok (.aload_n 0, 1) := by decide +kernel
theorem dX9_parts_31 : decode cX9_parts 31 = .ok (.getfield 12, 3) := by decide +kernel
theorem dX9_parts_34 : decode cX9_parts 34 = .ok (.getfield 197, 3) := by decide +kernel
theorem dX9_parts_37 : decode cX9_parts 37 = .ok (.iload_n 1, 1) := by decide +kernel
theorem dX9_parts_38 : decode cX9_parts 38 = .ok (.aaload, 1) := by decide +kernel
theorem dX9_parts_39 : decode cX9_parts 39 = .ok (.getfield 210, 3) := by decide +kernel
theorem dX9_parts_42 : decode cX9_parts 42 = .ok (.aload_n 0, 1) := by decide +kernel
theorem dX9_parts_43 : decode cX9_parts 43 = .ok (.getfield 12, 3) := by decide +kernel
theorem dX9_parts_46 : decode cX9_parts 46 = .ok (.getfield 197, 3) := by decide +kernel
theorem dX9_parts_49 : decode cX9_parts 49 = .ok (.iload_n 2, 1) := by decide +kernel
theorem dX9_parts_50 : decode cX9_parts 50 = .ok (.aaload, 1) := by decide +kernel
theorem dX9_parts_51 : decode cX9_parts 51 = .ok (.getfield 210, 3) := by decide +kernel
theorem dX9_parts_54 : decode cX9_parts 54 = .ok (.invokestatic 235, 3) := by decide +kernel
theorem dX9_parts_57 : decode cX9_parts 57 = .ok (.istore_n 3, 1) := by decide +kernel
theorem dX9_parts_58 : decode cX9_parts 58 = .ok (.iconst 0, 1) := by decide +kernel
theorem dX9_parts_59 : decode cX9_parts 59 = .ok (.istore 4, 2) := by decide +kernel
theorem dX9_parts_61 : decode cX9_parts 61 = .ok (.iload 4, 2) := by decide +kernel
theorem dX9_parts_63 : decode cX9_parts 63 = .ok (.iload_n 3, 1) := by decide +kernel
theorem dX9_parts_64 : decode cX9_parts 64 = .ok (.if_icmp .ge 70, 3) := by decide +kernel
theorem dX9_parts_67 : decode cX9_parts 67 = .ok (.aload_n 0, 1) := by decide +kernel
theorem dX9_parts_68 : decode cX9_parts 68 = .ok (.getfield 81, 3) := by decide +kernel
theorem dX9_parts_71 : decode cX9_parts 71 = .ok (.aload_n 0, 1) := by decide +kernel
theorem dX9_parts_72 : decode cX9_parts 72 = .ok (.getfield 12, 3) := by decide +kernel
theorem dX9_parts_75 : decode cX9_parts 75 = .ok (.getfield 197, 3) := by decide +kernel
theorem dX9_parts_78 : decode cX9_parts 78 = .ok (.iload_n 1, 1) := by decide +kernel
theorem dX9_parts_79 : decode cX9_parts 79 = .ok (.aaload, 1) := by decide +kernel
theorem dX9_parts_80 : decode cX9_parts 80 = .ok (.iload 4, 2) := by decide +kernel
theorem dX9_parts_82 : decode cX9_parts 82 = .ok (.iload 4, 2) := by decide +kernel
theorem dX9_parts_84 : decode cX9_parts 84 = .ok (.iconst 1, 1) := by decide +kernel
theorem dX9_parts_85 : decode cX9_parts 85 = .ok (.iadd, 1) := by decide +kernel
theorem dX9_parts_86 : decode cX9_parts 86 = .ok (.invokevirtual 224, 3) := by decide +kernel
theorem dX9_parts_89 : decode cX9_parts 89 = .ok (.aload_n 0, 1) := by decide +kernel
theorem dX9_parts_90 : decode cX9_parts 90 = .ok (.getfield 87, 3) := by decide +kernel
theorem dX9_parts_93 : decode cX9_parts 93 = .ok (.aload_n 0, 1) := by decide +kernel
theorem dX9_parts_94 : decode cX9_parts 94 = .ok (.getfield 12, 3) := by decide +kernel
theorem dX9_parts_97 : decode cX9_parts 97 = .ok (.getfield 197, 3) := by decide +kernel
theorem dX9_parts_100 : decode cX9_parts 100 = .ok (.iload_n 2, 1) := by decide +kernel
theorem dX9_parts_101 : decode cX9_parts 101 = .ok (.aaload, 1) := by decide +kernel
theorem dX9_parts_102 : decode cX9_parts 102 = .ok (.iload 4, 2) := by decide +kernel
theorem dX9_parts_104 : decode cX9_parts 104 = .ok (.iload 4, 2) := by decide +kernel
theorem dX9_parts_106 : decode cX9_parts 106 = .ok (.iconst 1, 1) := by decide +kernel
theorem dX9_parts_107 : decode cX9_parts 107 = .ok (.iadd, 1) := by decide +kernel
theorem dX9_parts_108 : decode cX9_parts 108 = .ok (.invokevirtual 224, 3) := by decide +kernel
theorem dX9_parts_111 : decode cX9_parts 111 = .ok (.aload_n 0, 1) := by decide +kernel
theorem dX9_parts_112 : decode cX9_parts 112 = .ok (.getfield 81, 3) := by decide +kernel
theorem dX9_parts_115 : decode cX9_parts 115 = .ok (.aload_n 0, 1) := by decide +kernel
theorem dX9_parts_116 : decode cX9_parts 116 = .ok (.getfield 87, 3) := by decide +kernel
theorem dX9_parts_119 : decode cX9_parts 119 = .ok (.invokevirtual 147, 3) := by decide +kernel
theorem dX9_parts_122 : decode cX9_parts 122 = .ok (.ifCond .ne 6, 3) := by decide +kernel
theorem dX9_parts_125 : decode cX9_parts 125 = .ok (.iload 4, 2) := by decide +kernel
theorem dX9_parts_127 : decode cX9_parts 127 = .ok (.ireturn, 1) := by decide +kernel
theorem dX9_parts_128 : decode cX9_parts 128 = .ok (.iinc 4 1, 3) := by decide +kernel
theorem dX9_parts_131 : decode cX9_parts 131 = .ok (.goto (-70), 3) := by decide +kernel
theorem dX9_parts_134 : decode cX9_parts 134 = .ok (.bipush (-2), 2) := by decide +kernel
theorem dX9_parts_136 : decode cX9_parts 136 = .ok (.ireturn, 1) := by decide +kernel
theorem dX9_undo_0 : decode cX9_undo 0 = .ok (.aload_n 0, 1) := by decide +kernel
theorem dX9_undo_1 : decode cX9_undo 1 = .ok (.getfield 28, 3) := by decide +kernel
theorem dX9_undo_4 : decode cX9_undo 4 = .ok (.getfield 240, 3) := by decide +kernel
theorem dX9_undo_7 : decode cX9_undo 7 = .ok (.ifCond .ne 6, 3) := by decide +kernel
theorem dX9_undo_10 : decode cX9_undo 10 = .ok (.bipush (-5), 2) := by decide +kernel
theorem dX9_undo_12 : decode cX9_undo 12 = .ok (.ireturn, 1) := by decide +kernel
theorem dX9_undo_13 : decode cX9_undo 13 = .ok (.aload_n 0, 1) := by decide +kernel
theorem dX9_undo_14 : decode cX9_undo 14 = .ok (.getfield 28, 3) := by decide +kernel
theorem dX9_undo_17 : decode cX9_undo 17 = .ok (.aload_n 0, 1) := by decide +kernel
theorem dX9_undo_18 : decode cX9_undo 18 = .ok (.getfield 12, 3) := by decide +kernel
theorem dX9_undo_21 : decode cX9_undo 21 = .ok (.getfield 197, 3) := by decide +kernel
theorem dX9_undo_24 : decode cX9_undo 24 = .ok (.invokevirtual 241, 3) := by decide +kernel
theorem dX9_undo_27 : decode cX9_undo 27 = .ok (.aload_n 0, 1) := by decide +kernel
theorem dX9_undo_28 : decode cX9_undo 28 = .ok (.getfield 28, 3) := by decide +kernel
theorem dX9_undo_31 : decode cX9_undo 31 = .ok (.getfield 240, 3) := by decide +kernel
theorem dX9_undo_34 : decode cX9_undo 34 = .ok (.ireturn, 1) := by decide +kernel
theorem dX9_feed_0 : decode cX9_feed 0 = .ok (.iload_n 1, 1) := by decide +kernel
theorem dX9_feed_1 : decode cX9_feed 1 = .ok (.bipush 32, 2) := by decide +kernel
theorem dX9_feed_3 : decode cX9_feed 3 = .ok (.if_icmp .lt 9, 3) := by decide +kernel
theorem dX9_feed_6 : decode cX9_feed 6 = .ok (.iload_n 1, 1) := by decide +kernel
theorem dX9_feed_7 : decode cX9_feed 7 = .ok (.bipush 126, 2) := by decide +kernel
theorem dX9_feed_9 : decode cX9_feed 9 = .ok (.if_icmp .le 5, 3) := by decide +kernel
theorem dX9_feed_12 : decode cX9_feed 12 = .ok (.iconst (-1), 1) := by decide +kernel
theorem dX9_feed_13 : decode cX9_feed 13 = .ok (.ireturn, 1) := by decide +kernel
theorem dX9_feed_14 : decode cX9_feed 14 = .ok (.aload_n 0, 1) := by decide +kernel
theorem dX9_feed_15 : decode cX9_feed 15 = .ok (.getfield 35, 3) := by decide +kernel
theorem dX9_feed_18 : decode cX9_feed 18 = .ok (.iload_n 1, 1) := by decide +kernel
theorem dX9_feed_19 : decode cX9_feed 19 = .ok (.invokevirtual 245, 3) := by decide +kernel
theorem dX9_feed_22 : decode cX9_feed 22 = .ok (.ifCond .eq 13, 3) := by decide +kernel
theorem dX9_feed_25 : decode cX9_feed 25 = .ok (.aload_n 0, 1) := by decide +kernel
theorem dX9_feed_26 : decode cX9_feed 26 = .ok (.getfield 35, 3) := by decide +kernel
theorem dX9_feed_29 : decode cX9_feed 29 = .ok (.getfield 246, 3) := by decide +kernel
theorem dX9_feed_32 : decode cX9_feed 32 = .ok (.goto 5, 3) := by decide +kernel
theorem dX9_feed_35 : decode cX9_feed 35 = .ok (.bipush (-3), 2) := by decide +kernel
theorem dX9_feed_37 : decode cX9_feed 37 = .ok (.ireturn, 1) := by decide +kernel
theorem dX9_wipe_0 : decode cX9_wipe 0 = .ok (.aload_n 0, 1) := by decide +kernel
theorem dX9_wipe_1 : decode cX9_wipe 1 = .ok (.getfield 35, 3) := by decide +kernel
theorem dX9_wipe_4 : decode cX9_wipe 4 = .ok (.getfield 246, 3) := by decide +kernel
theorem dX9_wipe_7 : decode cX9_wipe 7 = .ok (.istore_n 1, 1) := by decide +kernel
theorem dX9_wipe_8 : decode cX9_wipe 8 = .ok (.aload_n 0, 1) := by decide +kernel
theorem dX9_wipe_9 : decode cX9_wipe 9 = .ok (.getfield 35, 3) := by decide +kernel
theorem dX9_wipe_12 : decode cX9_wipe 12 = .ok (.iconst 0, 1) := by decide +kernel
theorem dX9_wipe_13 : decode cX9_wipe 13 = .ok (.putfield 246, 3) := by decide +kernel
theorem dX9_wipe_16 : decode cX9_wipe 16 = .ok (.iload_n 1, 1) := by decide +kernel
theorem dX9_wipe_17 : decode cX9_wipe 17 = .ok (.ireturn, 1) := by decide +kernel
theorem dX9_write_0 : decode cX9_write 0 = .ok (.iload_n 1, 1) := by decide +kernel
theorem dX9_write_1 : decode cX9_write 1 = .ok (.invokestatic 194, 3) := by decide +kernel
theorem dX9_write_4 : decode cX9_write 4 = .ok (.ifCond .ne 5, 3) := by decide +kernel
theorem dX9_write_7 : decode cX9_write 7 = .ok (.iconst (-1), 1) := by decide +kernel
theorem dX9_write_8 : decode cX9_write 8 = .ok (.ireturn, 1) := by decide +kernel
theorem dX9_write_9 : decode cX9_write 9 = .ok (.aload_n 0, 1) := by decide +kernel
theorem dX9_write_10 : decode cX9_write 10 = .ok (.getfield 35, 3) := by decide +kernel
theorem dX9_write_13 : decode cX9_write 13 = .ok (.invokevirtual 247, 3) := by decide +kernel
theorem dX9_write_16 : decode cX9_write 16 = .ok (.istore_n 2, 1) := by decide +kernel
theorem dX9_write_17 : decode cX9_write 17 = .ok (.iload_n 2, 1) := by decide +kernel
theorem dX9_write_18 : decode cX9_write 18 = .ok (.ifCond .ge 25, 3) := by decide +kernel
theorem dX9_write_21 : decode cX9_write 21 = .ok (.aload_n 0, 1) := by decide +kernel
theorem dX9_write_22 : decode cX9_write 22 = .ok (.getfield 42, 3) := by decide +kernel
theorem dX9_write_25 : decode cX9_write 25 = .ok (.aload_n 0, 1) := by decide +kernel
theorem dX9_write_26 : decode cX9_write 26 = .ok (.getfield 35, 3) := by decide +kernel
theorem dX9_write_29 : decode cX9_write 29 = .ok (.aload_n 0, 1) := by decide +kernel
theorem dX9_write_30 : decode cX9_write 30 = .ok (.getfield 70, 3) := by decide +kernel
theorem dX9_write_33 : decode cX9_write 33 = .ok (.invokevirtual 251, 3) := by decide +kernel
theorem dX9_write_36 : decode cX9_write 36 = .ok (.ifCond .eq 7, 3) := by decide +kernel
theorem dX9_write_39 : decode cX9_write 39 = .ok (.iconst 1, 1) := by decide +kernel
theorem dX9_write_40 : decode cX9_write 40 = .ok (.goto 4, 3) := by decide +kernel
theorem dX9_write_43 : decode cX9_write 43 = .ok (.iconst 0, 1) := by decide +kernel
theorem dX9_write_44 : decode cX9_write 44 = .ok (.istore_n 3, 1) := by decide +kernel
theorem dX9_write_45 : decode cX9_write 45 = .ok (.aload_n 0, 1) := by decide +kernel
theorem dX9_write_46 : decode cX9_write 46 = .ok (.getfield 35, 3) := by decide +kernel
theorem dX9_write_49 : decode cX9_write 49 = .ok (.iconst 0, 1) := by decide +kernel
theorem dX9_write_50 : decode cX9_write 50 = .ok (.putfield 246, 3) := by decide +kernel
theorem dX9_write_53 : decode cX9_write 53 = .ok (.iload_n 2, 1) := by decide +kernel
theorem dX9_write_54 : decode cX9_write 54 = .ok (.ifCond .lt 8, 3) := by decide +kernel
theorem dX9_write_57 : decode cX9_write 57 = .ok (.bipush (-100), 2) := by decide +kernel
theorem dX9_write_59 : decode cX9_write 59 = .ok (.iload_n 2, 1) := by decide +kernel
theorem dX9_write_60 : decode cX9_write 60 = .ok (.isub, 1) := by decide +kernel
theorem dX9_write_61 : decode cX9_write 61 = .ok (.ireturn, 1) := by decide +kernel
theorem dX9_write_62 : decode cX9_write 62 = .ok (.iload_n 3, 1) := by decide +kernel
theorem dX9_write_63 : decode cX9_write 63 = .ok (.ifCond .eq 11, 3) := by decide +kernel
theorem dX9_write_66 : decode cX9_write 66 = .ok (.aload_n 0, 1) := by decide +kernel
theorem dX9_write_67 : decode cX9_write 67 = .ok (.iload_n 1, 1) := by decide +kernel
theorem dX9_write_68 : decode cX9_write 68 = .ok (.invokevirtual 207, 3) := by decide +kernel
theorem dX9_write_71 : decode cX9_write 71 = .ok (.goto 5, 3) := by decide +kernel
theorem dX9_write_74 : decode cX9_write 74 = .ok (.bipush (-3), 2) := by decide +kernel
theorem dX9_write_76 : decode cX9_write 76 = .ok (.ireturn, 1) := by decide +kernel
theorem dX9_image_0 : decode cX9_image 0 = .ok (.aload_n 0, 1) := by decide +kernel
theorem dX9_image_1 : decode cX9_image 1 = .ok (.getfield 18, 3) := by decide +kernel
theorem dX9_image_4 : decode cX9_image 4 = .ok (.aload_n 0, 1) := by decide +kernel
theorem dX9_image_5 : decode cX9_image 5 = .ok (.getfield 12, 3) := by decide +kernel
theorem dX9_image_8 : decode cX9_image 8 = .ok (.invokevirtual 255, 3) := by decide +kernel
theorem dX9_image_11 : decode cX9_image 11 = .ok (.aload_n 0, 1) := by decide +kernel
theorem dX9_image_12 : decode cX9_image 12 = .ok (.iconst 1, 1) := by decide +kernel
theorem dX9_image_13 : decode cX9_image 13 = .ok (.putfield 21, 3) := by decide +kernel
theorem dX9_image_16 : decode cX9_image 16 = .ok (.aload_n 0, 1) := by decide +kernel
theorem dX9_image_17 : decode cX9_image 17 = .ok (.getfield 12, 3) := by decide +kernel
theorem dX9_image_20 : decode cX9_image 20 = .ok (.invokevirtual 258, 3) := by decide +kernel
theorem dX9_image_23 : decode cX9_image 23 = .ok (.ireturn, 1) := by decide +kernel
theorem dX9_restore_0 : decode cX9_restore 0 = .ok (.aload_n 0, 1) := by decide +kernel
theorem dX9_restore_1 : decode cX9_restore 1 = .ok (.getfield 21, 3) := by decide +kernel
theorem dX9_restore_4 : decode cX9_restore 4 = .ok (.ifCond .ne 6, 3) := by decide +kernel
theorem dX9_restore_7 : decode cX9_restore 7 = .ok (.bipush (-5), 2) := by decide +kernel
theorem dX9_restore_9 : decode cX9_restore 9 = .ok (.ireturn, 1) := by decide +kernel
theorem dX9_restore_10 : decode cX9_restore 10 = .ok (.aload_n 0, 1) := by decide +kernel
theorem dX9_restore_11 : decode cX9_restore 11 = .ok (.getfield 12, 3) := by decide +kernel
theorem dX9_restore_14 : decode cX9_restore 14 = .ok (.aload_n 0, 1) := by decide +kernel
theorem dX9_restore_15 : decode cX9_restore 15 = .ok (.getfield 18, 3) := by decide +kernel
theorem dX9_restore_18 : decode cX9_restore 18 = .ok (.invokevirtual 255, 3) := by decide +kernel
theorem dX9_restore_21 : decode cX9_restore 21 = .ok (.aload_n 0, 1) := by decide +kernel
theorem dX9_restore_22 : decode cX9_restore 22 = .ok (.getfield 28, 3) := by decide +kernel
theorem dX9_restore_25 : decode cX9_restore 25 = .ok (.iconst 0, 1) := by decide +kernel
theorem dX9_restore_26 : decode cX9_restore 26 = .ok (.putfield 240, 3) := by decide +kernel
theorem dX9_restore_29 : decode cX9_restore 29 = .ok (.aload_n 0, 1) := by decide +kernel
theorem dX9_restore_30 : decode cX9_restore 30 = .ok (.getfield 12, 3) := by decide +kernel
theorem dX9_restore_33 : decode cX9_restore 33 = .ok (.invokevirtual 258, 3) := by decide +kernel
theorem dX9_restore_36 : decode cX9_restore 36 = .ok (.ireturn, 1) := by decide +kernel
theorem dX9_told_0 : decode cX9_told 0 = .ok (.iload_n 1, 1) := by decide +kernel
theorem dX9_told_1 : decode cX9_told 1 = .ok (.tableswitch 51 0 2 #[27, 35, 43], 27) := by decide +kernel
theorem dX9_told_28 : decode cX9_told 28 = .ok (.aload_n 0, 1) := by decide +kernel
theorem dX9_told_29 : decode cX9_told 29 = .ok (.getfield 28, 3) := by decide +kernel
theorem dX9_told_32 : decode cX9_told 32 = .ok (.getfield 240, 3) := by decide +kernel
theorem dX9_told_35 : decode cX9_told 35 = .ok (.ireturn, 1) := by decide +kernel
theorem dX9_told_36 : decode cX9_told 36 = .ok (.aload_n 0, 1) := by decide +kernel
theorem dX9_told_37 : decode cX9_told 37 = .ok (.getfield 35, 3) := by decide +kernel
theorem dX9_told_40 : decode cX9_told 40 = .ok (.getfield 246, 3) := by decide +kernel
theorem dX9_told_43 : decode cX9_told 43 = .ok (.ireturn, 1) := by decide +kernel
theorem dX9_told_44 : decode cX9_told 44 = .ok (.aload_n 0, 1) := by decide +kernel
theorem dX9_told_45 : decode cX9_told 45 = .ok (.getfield 12, 3) := by decide +kernel
theorem dX9_told_48 : decode cX9_told 48 = .ok (.invokevirtual 261, 3) := by decide +kernel
theorem dX9_told_51 : decode cX9_told 51 = .ok (.ireturn, 1) := by decide +kernel
theorem dX9_told_52 : decode cX9_told 52 = .ok (.iload_n 1, 1) := by decide +kernel
theorem dX9_told_53 : decode cX9_told 53 = .ok (.iconst 3, 1) := by decide +kernel
theorem dX9_told_54 : decode cX9_told 54 = .ok (.isub, 1) := by decide +kernel
theorem dX9_told_55 : decode cX9_told 55 = .ok (.invokestatic 105, 3) := by decide +kernel
theorem dX9_told_58 : decode cX9_told 58 = .ok (.ifCond .eq 16, 3) := by decide +kernel
theorem dX9_told_61 : decode cX9_told 61 = .ok (.aload_n 0, 1) := by decide +kernel
theorem dX9_told_62 : decode cX9_told 62 = .ok (.getfield 12, 3) := by decide +kernel
theorem dX9_told_65 : decode cX9_told 65 = .ok (.iload_n 1, 1) := by decide +kernel
theorem dX9_told_66 : decode cX9_told 66 = .ok (.iconst 3, 1) := by decide +kernel
theorem dX9_told_67 : decode cX9_told 67 = .ok (.isub, 1) := by decide +kernel
theorem dX9_told_68 : decode cX9_told 68 = .ok (.invokevirtual 264, 3) := by decide +kernel
theorem dX9_told_71 : decode cX9_told 71 = .ok (.goto 4, 3) := by decide +kernel
theorem dX9_told_74 : decode cX9_told 74 = .ok (.iconst (-1), 1) := by decide +kernel
theorem dX9_told_75 : decode cX9_told 75 = .ok (.ireturn, 1) := by decide +kernel
theorem dX9_isBelow_0 : decode cX9_isBelow 0 = .ok (.iload_n 0, 1) := by decide +kernel
theorem dX9_isBelow_1 : decode cX9_isBelow 1 = .ok (.ifCond .lt 12, 3) := by decide +kernel
theorem dX9_isBelow_4 : decode cX9_isBelow 4 = .ok (.iload_n 0, 1) := by decide +kernel
theorem dX9_isBelow_5 : decode cX9_isBelow 5 = .ok (.iload_n 1, 1) := by decide +kernel
theorem dX9_isBelow_6 : decode cX9_isBelow 6 = .ok (.if_icmp .ge 7, 3) := by decide +kernel
theorem dX9_isBelow_9 : decode cX9_isBelow 9 = .ok (.iconst 1, 1) := by decide +kernel
theorem dX9_isBelow_10 : decode cX9_isBelow 10 = .ok (.goto 4, 3) := by decide +kernel
theorem dX9_isBelow_13 : decode cX9_isBelow 13 = .ok (.iconst 0, 1) := by decide +kernel
theorem dX9_isBelow_14 : decode cX9_isBelow 14 = .ok (.ireturn, 1) := by decide +kernel
theorem dX9_isRegister_0 : decode cX9_isRegister 0 = .ok (.iload_n 0, 1) := by decide +kernel
theorem dX9_isRegister_1 : decode cX9_isRegister 1 = .ok (.iconst 4, 1) := by decide +kernel
theorem dX9_isRegister_2 : decode cX9_isRegister 2 = .ok (.invokestatic 133, 3) := by decide +kernel
theorem dX9_isRegister_5 : decode cX9_isRegister 5 = .ok (.ireturn, 1) := by decide +kernel
theorem dX9_isGate_0 : decode cX9_isGate 0 = .ok (.iload_n 0, 1) := by decide +kernel
theorem dX9_isGate_1 : decode cX9_isGate 1 = .ok (.bipush 7, 2) := by decide +kernel
theorem dX9_isGate_3 : decode cX9_isGate 3 = .ok (.invokestatic 133, 3) := by decide +kernel
theorem dX9_isGate_6 : decode cX9_isGate 6 = .ok (.ireturn, 1) := by decide +kernel
theorem dX9_isWord_0 : decode cX9_isWord 0 = .ok (.iload_n 0, 1) := by decide +kernel
theorem dX9_isWord_1 : decode cX9_isWord 1 = .ok (.iconst 3, 1) := by decide +kernel
theorem dX9_isWord_2 : decode cX9_isWord 2 = .ok (.invokestatic 133, 3) := by decide +kernel
theorem dX9_isWord_5 : decode cX9_isWord 5 = .ok (.ireturn, 1) := by decide +kernel
theorem dX9_settleRegister_0 : decode cX9_settleRegister 0 = .ok (.aload_n 0, 1) := by decide +kernel
theorem dX9_settleRegister_1 : decode cX9_settleRegister 1 = .ok (.getfield 77, 3) := by decide +kernel
theorem dX9_settleRegister_4 : decode cX9_settleRegister 4 = .ok (.getfield 98, 3) := by decide +kernel
theorem dX9_settleRegister_7 : decode cX9_settleRegister 7 = .ok (.bipush 40, 2) := by decide +kernel
theorem dX9_settleRegister_9 : decode cX9_settleRegister 9 = .ok (.if_icmp .le 6, 3) := by decide +kernel
theorem dX9_settleRegister_12 : decode cX9_settleRegister 12 = .ok (.bipush (-5), 2) := by decide +kernel
theorem dX9_settleRegister_14 : decode cX9_settleRegister 14 = .ok (.ireturn, 1) := by decide +kernel
theorem dX9_settleRegister_15 : decode cX9_settleRegister 15 = .ok (.aload_n 0, 1) := by decide +kernel
theorem dX9_settleRegister_16 : decode cX9_settleRegister 16 = .ok (.getfield 12, 3) := by decide +kernel
theorem dX9_settleRegister_19 : decode cX9_settleRegister 19 = .ok (.getfield 94, 3) := by decide +kernel
theorem dX9_settleRegister_22 : decode cX9_settleRegister 22 = .ok (.iload_n 1, 1) := by decide +kernel
theorem dX9_settleRegister_23 : decode cX9_settleRegister 23 = .ok (.aaload, 1) := by decide +kernel
theorem dX9_settleRegister_24 : decode cX9_settleRegister 24 = .ok (.aload_n 0, 1) := by decide +kernel
theorem dX9_settleRegister_25 : decode cX9_settleRegister 25 = .ok (.getfield 77, 3) := by decide +kernel
theorem dX9_settleRegister_28 : decode cX9_settleRegister 28 = .ok (.invokevirtual 108, 3) := by decide +kernel
theorem dX9_settleRegister_31 : decode cX9_settleRegister 31 = .ok (.aload_n 0, 1) := by decide +kernel
theorem dX9_settleRegister_32 : decode cX9_settleRegister 32 = .ok (.getfield 77, 3) := by decide +kernel
theorem dX9_settleRegister_35 : decode cX9_settleRegister 35 = .ok (.getfield 98, 3) := by decide +kernel
theorem dX9_settleRegister_38 : decode cX9_settleRegister 38 = .ok (.ireturn, 1) := by decide +kernel
theorem dX9_settleWord_0 : decode cX9_settleWord 0 = .ok (.aload_n 0, 1) := by decide +kernel
theorem dX9_settleWord_1 : decode cX9_settleWord 1 = .ok (.getfield 12, 3) := by decide +kernel
theorem dX9_settleWord_4 : decode cX9_settleWord 4 = .ok (.getfield 197, 3) := by decide +kernel
theorem dX9_settleWord_7 : decode cX9_settleWord 7 = .ok (.iload_n 1, 1) := by decide +kernel
theorem dX9_settleWord_8 : decode cX9_settleWord 8 = .ok (.aaload, 1) := by decide +kernel
theorem dX9_settleWord_9 : decode cX9_settleWord 9 = .ok (.astore_n 2, 1) := by decide +kernel
theorem dX9_settleWord_10 : decode cX9_settleWord 10 = .ok (.aload_n 2, 1) := by decide +kernel
theorem dX9_settleWord_11 : decode cX9_settleWord 11 = .ok (.aload_n 0, 1) := by decide +kernel
theorem dX9_settleWord_12 : decode cX9_settleWord 12 = .ok (.getfield 70, 3) := by decide +kernel
theorem dX9_settleWord_15 : decode cX9_settleWord 15 = .ok (.invokevirtual 267, 3) := by decide +kernel
theorem dX9_settleWord_18 : decode cX9_settleWord 18 = .ok (.ifCond .ne 20, 3) := by decide +kernel
theorem dX9_settleWord_21 : decode cX9_settleWord 21 = .ok (.aload_n 0, 1) := by decide +kernel
theorem dX9_settleWord_22 : decode cX9_settleWord 22 = .ok (.getfield 28, 3) := by decide +kernel
theorem dX9_settleWord_25 : decode cX9_settleWord 25 = .ok (.iload_n 1, 1) := by decide +kernel
theorem dX9_settleWord_26 : decode cX9_settleWord 26 = .ok (.aload_n 2, 1) := by decide +kernel
theorem dX9_settleWord_27 : decode cX9_settleWord 27 = .ok (.invokevirtual 270, 3) := by decide +kernel
theorem dX9_settleWord_30 : decode cX9_settleWord 30 = .ok (.aload_n 2, 1) := by decide +kernel
theorem dX9_settleWord_31 : decode cX9_settleWord 31 = .ok (.aload_n 0, 1) := by decide +kernel
theorem dX9_settleWord_32 : decode cX9_settleWord 32 = .ok (.getfield 70, 3) := by decide +kernel
theorem dX9_settleWord_35 : decode cX9_settleWord 35 = .ok (.invokevirtual 201, 3) := by decide +kernel
theorem dX9_settleWord_38 : decode cX9_settleWord 38 = .ok (.aload_n 2, 1) := by decide +kernel
theorem dX9_settleWord_39 : decode cX9_settleWord 39 = .ok (.getfield 210, 3) := by decide +kernel
theorem dX9_settleWord_42 : decode cX9_settleWord 42 = .ok (.ireturn, 1) := by decide +kernel
theorem dX9_gateOfLetter_0 : decode cX9_gateOfLetter 0 = .ok (.iload_n 0, 1) := by decide +kernel
theorem dX9_gateOfLetter_1 : decode cX9_gateOfLetter 1 = .ok (.tableswitch 106 72 90 #[91, 106, 106, 106, 106, 106, 106, 106, 106, 106, 106, 95, 93, 103, 106, 101, 97, 106, 99], 91) := by decide +kernel
theorem dX9_gateOfLetter_92 : decode cX9_gateOfLetter 92 = .ok (.iconst 0, 1) := by decide +kernel
theorem dX9_gateOfLetter_93 : decode cX9_gateOfLetter 93 = .ok (.ireturn, 1) := by decide +kernel
theorem dX9_gateOfLetter_94 : decode cX9_gateOfLetter 94 = .ok (.iconst 1, 1) := by decide +kernel
theorem dX9_gateOfLetter_95 : decode cX9_gateOfLetter 95 = .ok (.ireturn, 1) := by decide +kernel
theorem dX9_gateOfLetter_96 : decode cX9_gateOfLetter 96 = .ok (.iconst 2, 1) := by decide +kernel
theorem dX9_gateOfLetter_97 : decode cX9_gateOfLetter 97 = .ok (.ireturn, 1) := by decide +kernel
theorem dX9_gateOfLetter_98 : decode cX9_gateOfLetter 98 = .ok (.iconst 3, 1) := by decide +kernel
theorem dX9_gateOfLetter_99 : decode cX9_gateOfLetter 99 = .ok (.ireturn, 1) := by decide +kernel
theorem dX9_gateOfLetter_100 : decode cX9_gateOfLetter 100 = .ok (.iconst 4, 1) := by decide +kernel
theorem dX9_gateOfLetter_101 : decode cX9_gateOfLetter 101 = .ok (.ireturn, 1) := by decide +kernel
theorem dX9_gateOfLetter_102 : decode cX9_gateOfLetter 102 = .ok (.iconst 5, 1) := by decide +kernel
theorem dX9_gateOfLetter_103 : decode cX9_gateOfLetter 103 = .ok (.ireturn, 1) := by decide +kernel
theorem dX9_gateOfLetter_104 : decode cX9_gateOfLetter 104 = .ok (.bipush 6, 2) := by decide +kernel
theorem dX9_gateOfLetter_106 : decode cX9_gateOfLetter 106 = .ok (.ireturn, 1) := by decide +kernel
theorem dX9_gateOfLetter_107 : decode cX9_gateOfLetter 107 = .ok (.bipush (-2), 2) := by decide +kernel
theorem dX9_gateOfLetter_109 : decode cX9_gateOfLetter 109 = .ok (.ireturn, 1) := by decide +kernel
theorem dX10_init_0 : decode cX10_init 0 = .ok (.aload_n 0, 1) := by decide +kernel
theorem dX10_init_1 : decode cX10_init 1 = .ok (.invokespecial 5, 3) := by decide +kernel
theorem dX10_init_4 : decode cX10_init 4 = .ok (.aload_n 0, 1) := by decide +kernel
theorem dX10_init_5 : decode cX10_init 5 = .ok (.sipush 340, 3) := by decide +kernel
theorem dX10_init_8 : decode cX10_init 8 = .ok (.newarray .long, 2) := by decide +kernel
theorem dX10_init_10 : decode cX10_init 10 = .ok (.putfield 11, 3) := by decide +kernel
theorem dX10_init_13 : decode cX10_init 13 = .ok (.aload_n 0, 1) := by decide +kernel
theorem dX10_init_14 : decode cX10_init 14 = .ok (.sipush 3264, 3) := by decide +kernel
theorem dX10_init_17 : decode cX10_init 17 = .ok (.newarray .long, 2) := by decide +kernel
theorem dX10_init_19 : decode cX10_init 19 = .ok (.putfield 15, 3) := by decide +kernel
theorem dX10_init_22 : decode cX10_init 22 = .ok (.aload_n 0, 1) := by decide +kernel
theorem dX10_init_23 : decode cX10_init 23 = .ok (.bipush 68, 2) := by decide +kernel
theorem dX10_init_25 : decode cX10_init 25 = .ok (.newarray .long, 2) := by decide +kernel
theorem dX10_init_27 : decode cX10_init 27 = .ok (.putfield 18, 3) := by decide +kernel
theorem dX10_init_30 : decode cX10_init 30 = .ok (.aload_n 0, 1) := by decide +kernel
theorem dX10_init_31 : decode cX10_init 31 = .ok (.bipush 7, 2) := by decide +kernel
theorem dX10_init_33 : decode cX10_init 33 = .ok (.newarray .int, 2) := by decide +kernel
theorem dX10_init_35 : decode cX10_init 35 = .ok (.putfield 21, 3) := by decide +kernel
theorem dX10_init_38 : decode cX10_init 38 = .ok (.aload_n 0, 1) := by decide +kernel
theorem dX10_init_39 : decode cX10_init 39 = .ok (.bipush 7, 2) := by decide +kernel
theorem dX10_init_41 : decode cX10_init 41 = .ok (.newarray .int, 2) := by decide +kernel
theorem dX10_init_43 : decode cX10_init 43 = .ok (.putfield 25, 3) := by decide +kernel
theorem dX10_init_46 : decode cX10_init 46 = .ok (.aload_n 0, 1) := by decide +kernel
theorem dX10_init_47 : decode cX10_init 47 = .ok (.sipush 180, 3) := by decide +kernel
theorem dX10_init_50 : decode cX10_init 50 = .ok (.newarray .int, 2) := by decide +kernel
theorem dX10_init_52 : decode cX10_init 52 = .ok (.putfield 28, 3) := by decide +kernel
theorem dX10_init_55 : decode cX10_init 55 = .ok (.aload_n 0, 1) := by decide +kernel
theorem dX10_init_56 : decode cX10_init 56 = .ok (.iconst 3, 1) := by decide +kernel
theorem dX10_init_57 : decode cX10_init 57 = .ok (.newarray .int, 2) := by decide +kernel
theorem dX10_init_59 : decode cX10_init 59 = .ok (.putfield 31, 3) := by decide +kernel
theorem dX10_init_62 : decode cX10_init 62 = .ok (.aload_n 0, 1) := by decide +kernel
theorem dX10_init_63 : decode cX10_init 63 = .ok (.sipush 180, 3) := by decide +kernel
theorem dX10_init_66 : decode cX10_init 66 = .ok (.newarray .int, 2) := by decide +kernel
theorem dX10_init_68 : decode cX10_init 68 = .ok (.putfield 34, 3) := by decide +kernel
theorem dX10_init_71 : decode cX10_init 71 = .ok (.aload_n 0, 1) := by decide +kernel
theorem dX10_init_72 : decode cX10_init 72 = .ok (.iconst 3, 1) := by decide +kernel
theorem dX10_init_73 : decode cX10_init 73 = .ok (.newarray .int, 2) := by decide +kernel
theorem dX10_init_75 : decode cX10_init 75 = .ok (.putfield 37, 3) := by decide +kernel
theorem dX10_init_78 : decode cX10_init 78 = .ok (.aload_n 0, 1) := by decide +kernel
theorem dX10_init_79 : decode cX10_init 79 = .ok (.bipush 9, 2) := by decide +kernel
theorem dX10_init_81 : decode cX10_init 81 = .ok (.newarray .long, 2) := by decide +kernel
theorem dX10_init_83 : decode cX10_init 83 = .ok (.putfield 40, 3) := by decide +kernel
theorem dX10_init_86 : decode cX10_init 86 = .ok (.aload_n 0, 1) := by decide +kernel
theorem dX10_init_87 : decode cX10_init 87 = .ok (.bipush 9, 2) := by decide +kernel
theorem dX10_init_89 : decode cX10_init 89 = .ok (.newarray .long, 2) := by decide +kernel
theorem dX10_init_91 : decode cX10_init 91 = .ok (.putfield 43, 3) := by decide +kernel
theorem dX10_init_94 : decode cX10_init 94 = .ok (.aload_n 0, 1) := by decide +kernel
theorem dX10_init_95 : decode cX10_init 95 = .ok (.sipush 1344, 3) := by decide +kernel
theorem dX10_init_98 : decode cX10_init 98 = .ok (.newarray .int, 2) := by decide +kernel
theorem dX10_init_100 : decode cX10_init 100 = .ok (.putfield 46, 3) := by decide +kernel
theorem dX10_init_103 : decode cX10_init 103 = .ok (.aload_n 0, 1) := by decide +kernel
theorem dX10_init_104 : decode cX10_init 104 = .ok (.sipush 1344, 3) := by decide +kernel
theorem dX10_init_107 : decode cX10_init 107 = .ok (.newarray .int, 2) := by decide +kernel
theorem dX10_init_109 : decode cX10_init 109 = .ok (.putfield 49, 3) := by decide +kernel
theorem dX10_init_112 : decode cX10_init 112 = .ok (.aload_n 0, 1) := by decide +kernel
theorem dX10_init_113 : decode cX10_init 113 = .ok (.sipush 192, 3) := by decide +kernel
theorem dX10_init_116 : decode cX10_init 116 = .ok (.newarray .int, 2) := by decide +kernel
theorem dX10_init_118 : decode cX10_init 118 = .ok (.putfield 52, 3) := by decide +kernel
theorem dX10_init_121 : decode cX10_init 121 = .ok (.aload_n 0, 1) := by decide +kernel
theorem dX10_init_122 : decode cX10_init 122 = .ok (.sipush 192, 3) := by decide +kernel
theorem dX10_init_125 : decode cX10_init 125 = .ok (.newarray .int, 2) := by decide +kernel
theorem dX10_init_127 : decode cX10_init 127 = .ok (.putfield 55, 3) := by decide +kernel
theorem dX10_init_130 : decode cX10_init 130 = .ok (.aload_n 0, 1) := by decide +kernel
theorem dX10_init_131 : decode cX10_init 131 = .ok (.sipush 600, 3) := by decide +kernel
theorem dX10_init_134 : decode cX10_init 134 = .ok (.newarray .int, 2) := by decide +kernel
theorem dX10_init_136 : decode cX10_init 136 = .ok (.putfield 58, 3) := by decide +kernel
theorem dX10_init_139 : decode cX10_init 139 = .ok (.aload_n 0, 1) := by decide +kernel
theorem dX10_init_140 : decode cX10_init 140 = .ok (.sipush 480, 3) := by decide +kernel
theorem dX10_init_143 : decode cX10_init 143 = .ok (.newarray .int, 2) := by decide +kernel
theorem dX10_init_145 : decode cX10_init 145 = .ok (.putfield 61, 3) := by decide +kernel
theorem dX10_init_148 : decode cX10_init 148 = .ok (.aload_n 0, 1) := by decide +kernel
theorem dX10_init_149 : decode cX10_init 149 = .ok (.bipush 8, 2) := by decide +kernel
theorem dX10_init_151 : decode cX10_init 151 = .ok (.newarray .int, 2) := by decide +kernel
theorem dX10_init_153 : decode cX10_init 153 = .ok (.putfield 64, 3) := by decide +kernel
theorem dX10_init_156 : decode cX10_init 156 = .ok (.aload_n 0, 1) := by decide +kernel
theorem dX10_init_157 : decode cX10_init 157 = .ok (.bipush 8, 2) := by decide +kernel
theorem dX10_init_159 : decode cX10_init 159 = .ok (.newarray .int, 2) := by decide +kernel
theorem dX10_init_161 : decode cX10_init 161 = .ok (.putfield 67, 3) := by decide +kernel
theorem dX10_init_164 : decode cX10_init 164 = .ok (.aload_n 0, 1) := by decide +kernel
theorem dX10_init_165 : decode cX10_init 165 = .ok (.bipush 80, 2) := by decide +kernel
theorem dX10_init_167 : decode cX10_init 167 = .ok (.newarray .int, 2) := by decide +kernel
theorem dX10_init_169 : decode cX10_init 169 = .ok (.putfield 70, 3) := by decide +kernel
theorem dX10_init_172 : decode cX10_init 172 = .ok (.aload_n 0, 1) := by decide +kernel
theorem dX10_init_173 : decode cX10_init 173 = .ok (.bipush 120, 2) := by decide +kernel
theorem dX10_init_175 : decode cX10_init 175 = .ok (.newarray .int, 2) := by decide +kernel
theorem dX10_init_177 : decode cX10_init 177 = .ok (.putfield 73, 3) := by decide +kernel
theorem dX10_init_180 : decode cX10_init 180 = .ok (.iconst 0, 1) := by decide +kernel
theorem dX10_init_181 : decode cX10_init 181 = .ok (.istore_n 1, 1) := by decide +kernel
theorem dX10_init_182 : decode cX10_init 182 = .ok (.iload_n 1, 1) := by decide +kernel
theorem dX10_init_183 : decode cX10_init 183 = .ok (.bipush 7, 2) := by decide +kernel
theorem dX10_init_185 : decode cX10_init 185 = .ok (.if_icmp .ge 16, 3) := by decide +kernel
theorem dX10_init_188 : decode cX10_init 188 = .ok (.aload_n 0, 1) := by decide +kernel
theorem dX10_init_189 : decode cX10_init 189 = .ok (.getfield 21, 3) := by decide +kernel
theorem dX10_init_192 : decode cX10_init 192 = .ok (.iload_n 1, 1) := by decide +kernel
theorem dX10_init_193 : decode cX10_init 193 = .ok (.iconst 1, 1) := by decide +kernel
theorem dX10_init_194 : decode cX10_init 194 = .ok (.iastore, 1) := by decide +kernel
theorem dX10_init_195 : decode cX10_init 195 = .ok (.iinc 1 1, 3) := by decide +kernel
theorem dX10_init_198 : decode cX10_init 198 = .ok (.goto (-16), 3) := by decide +kernel
theorem dX10_init_201 : decode cX10_init 201 = .ok (.aload_n 0, 1) := by decide +kernel
theorem dX10_init_202 : decode cX10_init 202 = .ok (.bipush 14, 2) := by decide +kernel
theorem dX10_init_204 : decode cX10_init 204 = .ok (.iconst 0, 1) := by decide +kernel
theorem dX10_init_205 : decode cX10_init 205 = .ok (.iconst 0, 1) := by decide +kernel
theorem dX10_init_206 : decode cX10_init 206 = .ok (.lconst 1, 1) := by decide +kernel
theorem dX10_init_207 : decode cX10_init 207 = .ok (.invokevirtual 76, 3) := by decide +kernel
theorem dX10_init_210 : decode cX10_init 210 = .ok (.aload_n 0, 1) := by decide +kernel
theorem dX10_init_211 : decode cX10_init 211 = .ok (.bipush 14, 2) := by decide +kernel
theorem dX10_init_213 : decode cX10_init 213 = .ok (.iconst 3, 1) := by decide +kernel
theorem dX10_init_214 : decode cX10_init 214 = .ok (.iconst 0, 1) := by decide +kernel
theorem dX10_init_215 : decode cX10_init 215 = .ok (.lconst 1, 1) := by decide +kernel
theorem dX10_init_216 : decode cX10_init 216 = .ok (.invokevirtual 76, 3) := by decide +kernel
theorem dX10_init_219 : decode cX10_init 219 = .ok (.aload_n 0, 1) := by decide +kernel
theorem dX10_init_220 : decode cX10_init 220 = .ok (.invokevirtual 80, 3) := by decide +kernel
theorem dX10_init_223 : decode cX10_init 223 = .ok (.iconst 0, 1) := by decide +kernel
theorem dX10_init_224 : decode cX10_init 224 = .ok (.istore_n 1, 1) := by decide +kernel
theorem dX10_init_225 : decode cX10_init 225 = .ok (.iload_n 1, 1) := by decide +kernel
theorem dX10_init_226 : decode cX10_init 226 = .ok (.iconst 4, 1) := by decide +kernel
theorem dX10_init_227 : decode cX10_init 227 = .ok (.if_icmp .ge 16, 3) := by decide +kernel
theorem dX10_init_230 : decode cX10_init 230 = .ok (.aload_n 0, 1) := by decide +kernel
theorem dX10_init_231 : decode cX10_init 231 = .ok (.bipush 14, 2) := by decide +kernel
theorem dX10_init_233 : decode cX10_init 233 = .ok (.iload_n 1, 1) := by decide +kernel
theorem dX10_init_234 : decode cX10_init 234 = .ok (.invokevirtual 83, 3) := by decide +kernel
theorem dX10_init_237 : decode cX10_init 237 = .ok (.iinc 1 1, 3) := by decide +kernel
theorem dX10_init_240 : decode cX10_init 240 = .ok (.goto (-15), 3) := by decide +kernel
theorem dX10_init_243 : decode cX10_init 243 = .ok (.aload_n 0, 1) := by decide +kernel
theorem dX10_init_244 : decode cX10_init 244 = .ok (.invokevirtual 87, 3) := by decide +kernel
theorem dX10_init_247 : decode cX10_init 247 = .ok (.return_, 1) := by decide +kernel
theorem dX10_isIn_0 : decode cX10_isIn 0 = .ok (.lload_n 0, 1) := by decide +kernel
theorem dX10_isIn_1 : decode cX10_isIn 1 = .ok (.lload_n 2, 1) := by decide +kernel
theorem dX10_isIn_2 : decode cX10_isIn 2 = .ok (.lcmp, 1) := by decide +kernel
theorem dX10_isIn_3 : decode cX10_isIn 3 = .ok (.ifCond .lt 14, 3) := by decide +kernel
theorem dX10_isIn_6 : decode cX10_isIn 6 = .ok (.lload_n 0, 1) := by decide +kernel
theorem dX10_isIn_7 : decode cX10_isIn 7 = .ok (.lload 4, 2) := by decide +kernel
theorem dX10_isIn_9 : decode cX10_isIn 9 = .ok (.lcmp, 1) := by decide +kernel
theorem dX10_isIn_10 : decode cX10_isIn 10 = .ok (.ifCond .gt 7, 3) := by decide +kernel
theorem dX10_isIn_13 : decode cX10_isIn 13 = .ok (.iconst 1, 1) := by decide +kernel
theorem dX10_isIn_14 : decode cX10_isIn 14 = .ok (.goto 4, 3) := by decide +kernel
theorem dX10_isIn_17 : decode cX10_isIn 17 = .ok (.iconst 0, 1) := by decide +kernel
theorem dX10_isIn_18 : decode cX10_isIn 18 = .ok (.ireturn, 1) := by decide +kernel
theorem dX10_number_0 : decode cX10_number 0 = .ok (.aload_n 0, 1) := by decide +kernel
theorem dX10_number_1 : decode cX10_number 1 = .ok (.getfield 11, 3) := by decide +kernel
theorem dX10_number_4 : decode cX10_number 4 = .ok (.bipush 17, 2) := by decide +kernel
theorem dX10_number_6 : decode cX10_number 6 = .ok (.iload_n 1, 1) := by decide +kernel
theorem dX10_number_7 : decode cX10_number 7 = .ok (.imul, 1) := by decide +kernel
theorem dX10_number_8 : decode cX10_number 8 = .ok (.iconst 4, 1) := by decide +kernel
theorem dX10_number_9 : decode cX10_number 9 = .ok (.iload_n 2, 1) := by decide +kernel
theorem dX10_number_10 : decode cX10_number 10 = .ok (.imul, 1) := by decide +kernel
theorem dX10_number_11 : decode cX10_number 11 = .ok (.iadd, 1) := by decide +kernel
theorem dX10_number_12 : decode cX10_number 12 = .ok (.iload_n 3, 1) := by decide +kernel
theorem dX10_number_13 : decode cX10_number 13 = .ok (.iadd, 1) := by decide +kernel
theorem dX10_number_14 : decode cX10_number 14 = .ok (.lload 4, 2) := by decide +kernel
theorem dX10_number_16 : decode cX10_number 16 = .ok (.lastore, 1) := by decide +kernel
theorem dX10_number_17 : decode cX10_number 17 = .ok (.return_, 1) := by decide +kernel
theorem dX10_at_0 : decode cX10_at 0 = .ok (.aload_n 0, 1) := by decide +kernel
theorem dX10_at_1 : decode cX10_at 1 = .ok (.getfield 11, 3) := by decide +kernel
theorem dX10_at_4 : decode cX10_at 4 = .ok (.bipush 17, 2) := by decide +kernel
theorem dX10_at_6 : decode cX10_at 6 = .ok (.iload_n 1, 1) := by decide +kernel
theorem dX10_at_7 : decode cX10_at 7 = .ok (.imul, 1) := by decide +kernel
theorem dX10_at_8 : decode cX10_at 8 = .ok (.iconst 4, 1) := by decide +kernel
theorem dX10_at_9 : decode cX10_at 9 = .ok (.iload_n 2, 1) := by decide +kernel
theorem dX10_at_10 : decode cX10_at 10 = .ok (.imul, 1) := by decide +kernel
theorem dX10_at_11 : decode cX10_at 11 = .ok (.iadd, 1) := by decide +kernel
theorem dX10_at_12 : decode cX10_at 12 = .ok (.iload_n 3, 1) := by decide +kernel
theorem dX10_at_13 : decode cX10_at 13 = .ok (.iadd, 1) := by decide +kernel
theorem dX10_at_14 : decode cX10_at 14 = .ok (.laload, 1) := by decide +kernel
theorem dX10_at_15 : decode cX10_at 15 = .ok (.lreturn, 1) := by decide +kernel
theorem dX10_eOf_0 : decode cX10_eOf 0 = .ok (.aload_n 0, 1) := by decide +kernel
theorem dX10_eOf_1 : decode cX10_eOf 1 = .ok (.getfield 11, 3) := by decide +kernel
theorem dX10_eOf_4 : decode cX10_eOf 4 = .ok (.bipush 17, 2) := by decide +kernel
theorem dX10_eOf_6 : decode cX10_eOf 6 = .ok (.iload_n 1, 1) := by decide +kernel
theorem dX10_eOf_7 : decode cX10_eOf 7 = .ok (.imul, 1) := by decide +kernel
theorem dX10_eOf_8 : decode cX10_eOf 8 = .ok (.bipush 16, 2) := by decide +kernel
theorem dX10_eOf_10 : decode cX10_eOf 10 = .ok (.iadd, 1) := by decide +kernel
theorem dX10_eOf_11 : decode cX10_eOf 11 = .ok (.laload, 1) := by decide +kernel
theorem dX10_eOf_12 : decode cX10_eOf 12 = .ok (.l2i, 1) := by decide +kernel
theorem dX10_eOf_13 : decode cX10_eOf 13 = .ok (.ireturn, 1) := by decide +kernel
theorem dX10_copies_0 : decode cX10_copies 0 = .ok (.iconst 0, 1) := by decide +kernel
theorem dX10_copies_1 : decode cX10_copies 1 = .ok (.istore_n 3, 1) := by decide +kernel
theorem dX10_copies_2 : decode cX10_copies 2 = .ok (.iload_n 3, 1) := by decide +kernel
theorem dX10_copies_3 : decode cX10_copies 3 = .ok (.bipush 17, 2) := by decide +kernel
theorem dX10_copies_5 : decode cX10_copies 5 = .ok (.if_icmp .ge 31, 3) := by decide +kernel
theorem dX10_copies_8 : decode cX10_copies 8 = .ok (.aload_n 0, 1) := by decide +kernel
theorem dX10_copies_9 : decode cX10_copies 9 = .ok (.getfield 11, 3) := by decide +kernel
theorem dX10_copies_12 : decode cX10_copies 12 = .ok (.bipush 17, 2) := by decide +kernel
theorem dX10_copies_14 : decode cX10_copies 14 = .ok (.iload_n 2, 1) := by decide +kernel
theorem dX10_copies_15 : decode cX10_copies 15 = .ok (.imul, 1) := by decide +kernel
theorem dX10_copies_16 : decode cX10_copies 16 = .ok (.iload_n 3, 1) := by decide +kernel
theorem dX10_copies_17 : decode cX10_copies 17 = .ok (.iadd, 1) := by decide +kernel
theorem dX10_copies_18 : decode cX10_copies 18 = .ok (.aload_n 0, 1) := by decide +kernel
theorem dX10_copies_19 : decode cX10_copies 19 = .ok (.getfield 11, 3) := by decide +kernel
theorem dX10_copies_22 : decode cX10_copies 22 = .ok (.bipush 17, 2) := by decide +kernel
theorem dX10_copies_24 : decode cX10_copies 24 = .ok (.iload_n 1, 1) := by decide +kernel
theorem dX10_copies_25 : decode cX10_copies 25 = .ok (.imul, 1) := by decide +kernel
theorem dX10_copies_26 : decode cX10_copies 26 = .ok (.iload_n 3, 1) := by decide +kernel
theorem dX10_copies_27 : decode cX10_copies 27 = .ok (.iadd, 1) := by decide +kernel
theorem dX10_copies_28 : decode cX10_copies 28 = .ok (.laload, 1) := by decide +kernel
theorem dX10_copies_29 : decode cX10_copies 29 = .ok (.lastore, 1) := by decide +kernel
theorem dX10_copies_30 : decode cX10_copies 30 = .ok (.iinc 3 1, 3) := by decide +kernel
theorem dX10_copies_33 : decode cX10_copies 33 = .ok (.goto (-31), 3) := by decide +kernel
theorem dX10_copies_36 : decode cX10_copies 36 = .ok (.return_, 1) := by decide +kernel
theorem dX10_gates_0 : decode cX10_gates 0 = .ok (.iconst 0, 1) := by decide +kernel

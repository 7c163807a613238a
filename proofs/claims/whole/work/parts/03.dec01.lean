theorem dX5_read_71 : decode cX5_read 71 = .ok (.invokevirtual 44, 3) := by decide +kernel
theorem dX5_read_74 : decode cX5_read 74 = .ok (.ifCond .ne 5, 3) := by decide +kernel
theorem dX5_read_77 : decode cX5_read 77 = .ok (.iconst 0, 1) := by decide +kernel
theorem dX5_read_78 : decode cX5_read 78 = .ok (.ireturn, 1) := by decide +kernel
theorem dX5_read_79 : decode cX5_read 79 = .ok (.iinc 3 1, 3) := by decide +kernel
theorem dX5_read_82 : decode cX5_read 82 = .ok (.goto (-26), 3) := by decide +kernel
theorem dX5_read_85 : decode cX5_read 85 = .ok (.iconst 1, 1) := by decide +kernel
theorem dX5_read_86 : decode cX5_read 86 = .ok (.ireturn, 1) := by decide +kernel
theorem dX5_readByte_0 : decode cX5_readByte 0 = .ok (.aload_n 1, 1) := by decide +kernel
theorem dX5_readByte_1 : decode cX5_readByte 1 = .ok (.iload_n 2, 1) := by decide +kernel
theorem dX5_readByte_2 : decode cX5_readByte 2 = .ok (.invokevirtual 48, 3) := by decide +kernel
theorem dX5_readByte_5 : decode cX5_readByte 5 = .ok (.istore_n 3, 1) := by decide +kernel
theorem dX5_readByte_6 : decode cX5_readByte 6 = .ok (.iload_n 3, 1) := by decide +kernel
theorem dX5_readByte_7 : decode cX5_readByte 7 = .ok (.invokestatic 52, 3) := by decide +kernel
theorem dX5_readByte_10 : decode cX5_readByte 10 = .ok (.istore 4, 2) := by decide +kernel
theorem dX5_readByte_12 : decode cX5_readByte 12 = .ok (.iload 4, 2) := by decide +kernel
theorem dX5_readByte_14 : decode cX5_readByte 14 = .ok (.ifCond .lt 10, 3) := by decide +kernel
theorem dX5_readByte_17 : decode cX5_readByte 17 = .ok (.aload_n 0, 1) := by decide +kernel
theorem dX5_readByte_18 : decode cX5_readByte 18 = .ok (.iload 4, 2) := by decide +kernel
theorem dX5_readByte_20 : decode cX5_readByte 20 = .ok (.invokevirtual 55, 3) := by decide +kernel
theorem dX5_readByte_23 : decode cX5_readByte 23 = .ok (.ireturn, 1) := by decide +kernel
theorem dX5_readByte_24 : decode cX5_readByte 24 = .ok (.iload_n 3, 1) := by decide +kernel
theorem dX5_readByte_25 : decode cX5_readByte 25 = .ok (.bipush 126, 2) := by decide +kernel
theorem dX5_readByte_27 : decode cX5_readByte 27 = .ok (.if_icmp .ne 15, 3) := by decide +kernel
theorem dX5_readByte_30 : decode cX5_readByte 30 = .ok (.aload_n 0, 1) := by decide +kernel
theorem dX5_readByte_31 : decode cX5_readByte 31 = .ok (.dup, 1) := by decide +kernel
theorem dX5_readByte_32 : decode cX5_readByte 32 = .ok (.getfield 31, 3) := by decide +kernel
theorem dX5_readByte_35 : decode cX5_readByte 35 = .ok (.iconst 1, 1) := by decide +kernel
theorem dX5_readByte_36 : decode cX5_readByte 36 = .ok (.iadd, 1) := by decide +kernel
theorem dX5_readByte_37 : decode cX5_readByte 37 = .ok (.putfield 31, 3) := by decide +kernel
theorem dX5_readByte_40 : decode cX5_readByte 40 = .ok (.iconst 1, 1) := by decide +kernel
theorem dX5_readByte_41 : decode cX5_readByte 41 = .ok (.ireturn, 1) := by decide +kernel
theorem dX5_readByte_42 : decode cX5_readByte 42 = .ok (.iload_n 3, 1) := by decide +kernel
theorem dX5_readByte_43 : decode cX5_readByte 43 = .ok (.bipush 40, 2) := by decide +kernel
theorem dX5_readByte_45 : decode cX5_readByte 45 = .ok (.if_icmp .ne 8, 3) := by decide +kernel
theorem dX5_readByte_48 : decode cX5_readByte 48 = .ok (.aload_n 0, 1) := by decide +kernel
theorem dX5_readByte_49 : decode cX5_readByte 49 = .ok (.invokevirtual 58, 3) := by decide +kernel
theorem dX5_readByte_52 : decode cX5_readByte 52 = .ok (.ireturn, 1) := by decide +kernel
theorem dX5_readByte_53 : decode cX5_readByte 53 = .ok (.iload_n 3, 1) := by decide +kernel
theorem dX5_readByte_54 : decode cX5_readByte 54 = .ok (.bipush 41, 2) := by decide +kernel
theorem dX5_readByte_56 : decode cX5_readByte 56 = .ok (.if_icmp .ne 28, 3) := by decide +kernel
theorem dX5_readByte_59 : decode cX5_readByte 59 = .ok (.aload_n 1, 1) := by decide +kernel
theorem dX5_readByte_60 : decode cX5_readByte 60 = .ok (.iload_n 2, 1) := by decide +kernel
theorem dX5_readByte_61 : decode cX5_readByte 61 = .ok (.iconst 1, 1) := by decide +kernel
theorem dX5_readByte_62 : decode cX5_readByte 62 = .ok (.iadd, 1) := by decide +kernel
theorem dX5_readByte_63 : decode cX5_readByte 63 = .ok (.invokevirtual 62, 3) := by decide +kernel
theorem dX5_readByte_66 : decode cX5_readByte 66 = .ok (.istore 5, 2) := by decide +kernel
theorem dX5_readByte_68 : decode cX5_readByte 68 = .ok (.aload_n 0, 1) := by decide +kernel
theorem dX5_readByte_69 : decode cX5_readByte 69 = .ok (.iload 5, 2) := by decide +kernel
theorem dX5_readByte_71 : decode cX5_readByte 71 = .ok (.ifCond .ge 7, 3) := by decide +kernel
theorem dX5_readByte_74 : decode cX5_readByte 74 = .ok (.iconst 1, 1) := by decide +kernel
theorem dX5_readByte_75 : decode cX5_readByte 75 = .ok (.goto 5, 3) := by decide +kernel
theorem dX5_readByte_78 : decode cX5_readByte 78 = .ok (.iload 5, 2) := by decide +kernel
theorem dX5_readByte_80 : decode cX5_readByte 80 = .ok (.invokevirtual 65, 3) := by decide +kernel
theorem dX5_readByte_83 : decode cX5_readByte 83 = .ok (.ireturn, 1) := by decide +kernel
theorem dX5_readByte_84 : decode cX5_readByte 84 = .ok (.iconst 1, 1) := by decide +kernel
theorem dX5_readByte_85 : decode cX5_readByte 85 = .ok (.ireturn, 1) := by decide +kernel
theorem dX5_isHeld_0 : decode cX5_isHeld 0 = .ok (.iload_n 1, 1) := by decide +kernel
theorem dX5_isHeld_1 : decode cX5_isHeld 1 = .ok (.aload_n 0, 1) := by decide +kernel
theorem dX5_isHeld_2 : decode cX5_isHeld 2 = .ok (.getfield 18, 3) := by decide +kernel
theorem dX5_isHeld_5 : decode cX5_isHeld 5 = .ok (.aload_n 0, 1) := by decide +kernel
theorem dX5_isHeld_6 : decode cX5_isHeld 6 = .ok (.getfield 28, 3) := by decide +kernel
theorem dX5_isHeld_9 : decode cX5_isHeld 9 = .ok (.iaload, 1) := by decide +kernel
theorem dX5_isHeld_10 : decode cX5_isHeld 10 = .ok (.isub, 1) := by decide +kernel
theorem dX5_isHeld_11 : decode cX5_isHeld 11 = .ok (.iload_n 2, 1) := by decide +kernel
theorem dX5_isHeld_12 : decode cX5_isHeld 12 = .ok (.iadd, 1) := by decide +kernel
theorem dX5_isHeld_13 : decode cX5_isHeld 13 = .ok (.bipush 60, 2) := by decide +kernel
theorem dX5_isHeld_15 : decode cX5_isHeld 15 = .ok (.if_icmp .gt 7, 3) := by decide +kernel
theorem dX5_isHeld_18 : decode cX5_isHeld 18 = .ok (.iconst 1, 1) := by decide +kernel
theorem dX5_isHeld_19 : decode cX5_isHeld 19 = .ok (.goto 4, 3) := by decide +kernel
theorem dX5_isHeld_22 : decode cX5_isHeld 22 = .ok (.iconst 0, 1) := by decide +kernel
theorem dX5_isHeld_23 : decode cX5_isHeld 23 = .ok (.ireturn, 1) := by decide +kernel
theorem dX5_readGate_0 : decode cX5_readGate 0 = .ok (.aload_n 0, 1) := by decide +kernel
theorem dX5_readGate_1 : decode cX5_readGate 1 = .ok (.getfield 24, 3) := by decide +kernel
theorem dX5_readGate_4 : decode cX5_readGate 4 = .ok (.istore_n 2, 1) := by decide +kernel
theorem dX5_readGate_5 : decode cX5_readGate 5 = .ok (.aload_n 0, 1) := by decide +kernel
theorem dX5_readGate_6 : decode cX5_readGate 6 = .ok (.iload_n 2, 1) := by decide +kernel
theorem dX5_readGate_7 : decode cX5_readGate 7 = .ok (.iconst 1, 1) := by decide +kernel
theorem dX5_readGate_8 : decode cX5_readGate 8 = .ok (.invokevirtual 68, 3) := by decide +kernel
theorem dX5_readGate_11 : decode cX5_readGate 11 = .ok (.ifCond .ne 5, 3) := by decide +kernel
theorem dX5_readGate_14 : decode cX5_readGate 14 = .ok (.iconst 0, 1) := by decide +kernel
theorem dX5_readGate_15 : decode cX5_readGate 15 = .ok (.ireturn, 1) := by decide +kernel
theorem dX5_readGate_16 : decode cX5_readGate 16 = .ok (.aload_n 0, 1) := by decide +kernel
theorem dX5_readGate_17 : decode cX5_readGate 17 = .ok (.getfield 9, 3) := by decide +kernel
theorem dX5_readGate_20 : decode cX5_readGate 20 = .ok (.aload_n 0, 1) := by decide +kernel
theorem dX5_readGate_21 : decode cX5_readGate 21 = .ok (.getfield 24, 3) := by decide +kernel
theorem dX5_readGate_24 : decode cX5_readGate 24 = .ok (.iload_n 1, 1) := by decide +kernel
theorem dX5_readGate_25 : decode cX5_readGate 25 = .ok (.iastore, 1) := by decide +kernel
theorem dX5_readGate_26 : decode cX5_readGate 26 = .ok (.aload_n 0, 1) := by decide +kernel
theorem dX5_readGate_27 : decode cX5_readGate 27 = .ok (.dup, 1) := by decide +kernel
theorem dX5_readGate_28 : decode cX5_readGate 28 = .ok (.getfield 24, 3) := by decide +kernel
theorem dX5_readGate_31 : decode cX5_readGate 31 = .ok (.iconst 1, 1) := by decide +kernel
theorem dX5_readGate_32 : decode cX5_readGate 32 = .ok (.iadd, 1) := by decide +kernel
theorem dX5_readGate_33 : decode cX5_readGate 33 = .ok (.putfield 24, 3) := by decide +kernel
theorem dX5_readGate_36 : decode cX5_readGate 36 = .ok (.aload_n 0, 1) := by decide +kernel
theorem dX5_readGate_37 : decode cX5_readGate 37 = .ok (.iload_n 2, 1) := by decide +kernel
theorem dX5_readGate_38 : decode cX5_readGate 38 = .ok (.invokevirtual 72, 3) := by decide +kernel
theorem dX5_readGate_41 : decode cX5_readGate 41 = .ok (.ireturn, 1) := by decide +kernel
theorem dX5_openGroup_0 : decode cX5_openGroup 0 = .ok (.aload_n 0, 1) := by decide +kernel
theorem dX5_openGroup_1 : decode cX5_openGroup 1 = .ok (.getfield 28, 3) := by decide +kernel
theorem dX5_openGroup_4 : decode cX5_openGroup 4 = .ok (.iconst 4, 1) := by decide +kernel
theorem dX5_openGroup_5 : decode cX5_openGroup 5 = .ok (.if_icmp .lt 5, 3) := by decide +kernel
theorem dX5_openGroup_8 : decode cX5_openGroup 8 = .ok (.iconst 0, 1) := by decide +kernel
theorem dX5_openGroup_9 : decode cX5_openGroup 9 = .ok (.ireturn, 1) := by decide +kernel
theorem dX5_openGroup_10 : decode cX5_openGroup 10 = .ok (.aload_n 0, 1) := by decide +kernel
theorem dX5_openGroup_11 : decode cX5_openGroup 11 = .ok (.getfield 21, 3) := by decide +kernel
theorem dX5_openGroup_14 : decode cX5_openGroup 14 = .ok (.aload_n 0, 1) := by decide +kernel
theorem dX5_openGroup_15 : decode cX5_openGroup 15 = .ok (.getfield 28, 3) := by decide +kernel
theorem dX5_openGroup_18 : decode cX5_openGroup 18 = .ok (.aload_n 0, 1) := by decide +kernel
theorem dX5_openGroup_19 : decode cX5_openGroup 19 = .ok (.getfield 31, 3) := by decide +kernel
theorem dX5_openGroup_22 : decode cX5_openGroup 22 = .ok (.iastore, 1) := by decide +kernel
theorem dX5_openGroup_23 : decode cX5_openGroup 23 = .ok (.aload_n 0, 1) := by decide +kernel
theorem dX5_openGroup_24 : decode cX5_openGroup 24 = .ok (.iconst 0, 1) := by decide +kernel
theorem dX5_openGroup_25 : decode cX5_openGroup 25 = .ok (.putfield 31, 3) := by decide +kernel
theorem dX5_openGroup_28 : decode cX5_openGroup 28 = .ok (.aload_n 0, 1) := by decide +kernel
theorem dX5_openGroup_29 : decode cX5_openGroup 29 = .ok (.dup, 1) := by decide +kernel
theorem dX5_openGroup_30 : decode cX5_openGroup 30 = .ok (.getfield 28, 3) := by decide +kernel
theorem dX5_openGroup_33 : decode cX5_openGroup 33 = .ok (.iconst 1, 1) := by decide +kernel
theorem dX5_openGroup_34 : decode cX5_openGroup 34 = .ok (.iadd, 1) := by decide +kernel
theorem dX5_openGroup_35 : decode cX5_openGroup 35 = .ok (.putfield 28, 3) := by decide +kernel
theorem dX5_openGroup_38 : decode cX5_openGroup 38 = .ok (.aload_n 0, 1) := by decide +kernel
theorem dX5_openGroup_39 : decode cX5_openGroup 39 = .ok (.getfield 18, 3) := by decide +kernel
theorem dX5_openGroup_42 : decode cX5_openGroup 42 = .ok (.aload_n 0, 1) := by decide +kernel
theorem dX5_openGroup_43 : decode cX5_openGroup 43 = .ok (.getfield 28, 3) := by decide +kernel
theorem dX5_openGroup_46 : decode cX5_openGroup 46 = .ok (.aload_n 0, 1) := by decide +kernel
theorem dX5_openGroup_47 : decode cX5_openGroup 47 = .ok (.getfield 24, 3) := by decide +kernel
theorem dX5_openGroup_50 : decode cX5_openGroup 50 = .ok (.iastore, 1) := by decide +kernel
theorem dX5_openGroup_51 : decode cX5_openGroup 51 = .ok (.iconst 1, 1) := by decide +kernel
theorem dX5_openGroup_52 : decode cX5_openGroup 52 = .ok (.ireturn, 1) := by decide +kernel
theorem dX5_closeGroup_0 : decode cX5_closeGroup 0 = .ok (.aload_n 0, 1) := by decide +kernel
theorem dX5_closeGroup_1 : decode cX5_closeGroup 1 = .ok (.getfield 28, 3) := by decide +kernel
theorem dX5_closeGroup_4 : decode cX5_closeGroup 4 = .ok (.ifCond .gt 5, 3) := by decide +kernel
theorem dX5_closeGroup_7 : decode cX5_closeGroup 7 = .ok (.iconst 0, 1) := by decide +kernel
theorem dX5_closeGroup_8 : decode cX5_closeGroup 8 = .ok (.ireturn, 1) := by decide +kernel
theorem dX5_closeGroup_9 : decode cX5_closeGroup 9 = .ok (.aload_n 0, 1) := by decide +kernel
theorem dX5_closeGroup_10 : decode cX5_closeGroup 10 = .ok (.getfield 18, 3) := by decide +kernel
theorem dX5_closeGroup_13 : decode cX5_closeGroup 13 = .ok (.aload_n 0, 1) := by decide +kernel
theorem dX5_closeGroup_14 : decode cX5_closeGroup 14 = .ok (.getfield 28, 3) := by decide +kernel
theorem dX5_closeGroup_17 : decode cX5_closeGroup 17 = .ok (.iaload, 1) := by decide +kernel
theorem dX5_closeGroup_18 : decode cX5_closeGroup 18 = .ok (.istore_n 2, 1) := by decide +kernel
theorem dX5_closeGroup_19 : decode cX5_closeGroup 19 = .ok (.aload_n 0, 1) := by decide +kernel
theorem dX5_closeGroup_20 : decode cX5_closeGroup 20 = .ok (.getfield 24, 3) := by decide +kernel
theorem dX5_closeGroup_23 : decode cX5_closeGroup 23 = .ok (.iload_n 2, 1) := by decide +kernel
theorem dX5_closeGroup_24 : decode cX5_closeGroup 24 = .ok (.isub, 1) := by decide +kernel
theorem dX5_closeGroup_25 : decode cX5_closeGroup 25 = .ok (.istore_n 3, 1) := by decide +kernel
theorem dX5_closeGroup_26 : decode cX5_closeGroup 26 = .ok (.aload_n 0, 1) := by decide +kernel
theorem dX5_closeGroup_27 : decode cX5_closeGroup 27 = .ok (.dup, 1) := by decide +kernel
theorem dX5_closeGroup_28 : decode cX5_closeGroup 28 = .ok (.getfield 28, 3) := by decide +kernel
theorem dX5_closeGroup_31 : decode cX5_closeGroup 31 = .ok (.iconst 1, 1) := by decide +kernel
theorem dX5_closeGroup_32 : decode cX5_closeGroup 32 = .ok (.isub, 1) := by decide +kernel
theorem dX5_closeGroup_33 : decode cX5_closeGroup 33 = .ok (.putfield 28, 3) := by decide +kernel
theorem dX5_closeGroup_36 : decode cX5_closeGroup 36 = .ok (.aload_n 0, 1) := by decide +kernel
theorem dX5_closeGroup_37 : decode cX5_closeGroup 37 = .ok (.aload_n 0, 1) := by decide +kernel
theorem dX5_closeGroup_38 : decode cX5_closeGroup 38 = .ok (.getfield 21, 3) := by decide +kernel
theorem dX5_closeGroup_41 : decode cX5_closeGroup 41 = .ok (.aload_n 0, 1) := by decide +kernel
theorem dX5_closeGroup_42 : decode cX5_closeGroup 42 = .ok (.getfield 28, 3) := by decide +kernel
theorem dX5_closeGroup_45 : decode cX5_closeGroup 45 = .ok (.iaload, 1) := by decide +kernel
theorem dX5_closeGroup_46 : decode cX5_closeGroup 46 = .ok (.putfield 31, 3) := by decide +kernel
theorem dX5_closeGroup_49 : decode cX5_closeGroup 49 = .ok (.aload_n 0, 1) := by decide +kernel
theorem dX5_closeGroup_50 : decode cX5_closeGroup 50 = .ok (.iload_n 2, 1) := by decide +kernel
theorem dX5_closeGroup_51 : decode cX5_closeGroup 51 = .ok (.iload_n 3, 1) := by decide +kernel
theorem dX5_closeGroup_52 : decode cX5_closeGroup 52 = .ok (.iload_n 1, 1) := by decide +kernel
theorem dX5_closeGroup_53 : decode cX5_closeGroup 53 = .ok (.imul, 1) := by decide +kernel
theorem dX5_closeGroup_54 : decode cX5_closeGroup 54 = .ok (.invokevirtual 68, 3) := by decide +kernel
theorem dX5_closeGroup_57 : decode cX5_closeGroup 57 = .ok (.ifCond .ne 5, 3) := by decide +kernel
theorem dX5_closeGroup_60 : decode cX5_closeGroup 60 = .ok (.iconst 0, 1) := by decide +kernel
theorem dX5_closeGroup_61 : decode cX5_closeGroup 61 = .ok (.ireturn, 1) := by decide +kernel
theorem dX5_closeGroup_62 : decode cX5_closeGroup 62 = .ok (.aload_n 0, 1) := by decide +kernel
theorem dX5_closeGroup_63 : decode cX5_closeGroup 63 = .ok (.iload_n 2, 1) := by decide +kernel
theorem dX5_closeGroup_64 : decode cX5_closeGroup 64 = .ok (.iload_n 3, 1) := by decide +kernel
theorem dX5_closeGroup_65 : decode cX5_closeGroup 65 = .ok (.iload_n 1, 1) := by decide +kernel
theorem dX5_closeGroup_66 : decode cX5_closeGroup 66 = .ok (.imul, 1) := by decide +kernel
theorem dX5_closeGroup_67 : decode cX5_closeGroup 67 = .ok (.iadd, 1) := by decide +kernel
theorem dX5_closeGroup_68 : decode cX5_closeGroup 68 = .ok (.putfield 24, 3) := by decide +kernel
theorem dX5_closeGroup_71 : decode cX5_closeGroup 71 = .ok (.iload_n 2, 1) := by decide +kernel
theorem dX5_closeGroup_72 : decode cX5_closeGroup 72 = .ok (.iload_n 3, 1) := by decide +kernel
theorem dX5_closeGroup_73 : decode cX5_closeGroup 73 = .ok (.iadd, 1) := by decide +kernel
theorem dX5_closeGroup_74 : decode cX5_closeGroup 74 = .ok (.istore 4, 2) := by decide +kernel
theorem dX5_closeGroup_76 : decode cX5_closeGroup 76 = .ok (.iload 4, 2) := by decide +kernel
theorem dX5_closeGroup_78 : decode cX5_closeGroup 78 = .ok (.aload_n 0, 1) := by decide +kernel
theorem dX5_closeGroup_79 : decode cX5_closeGroup 79 = .ok (.getfield 24, 3) := by decide +kernel
theorem dX5_closeGroup_82 : decode cX5_closeGroup 82 = .ok (.if_icmp .ge 25, 3) := by decide +kernel
theorem dX5_closeGroup_85 : decode cX5_closeGroup 85 = .ok (.aload_n 0, 1) := by decide +kernel
theorem dX5_closeGroup_86 : decode cX5_closeGroup 86 = .ok (.getfield 9, 3) := by decide +kernel
theorem dX5_closeGroup_89 : decode cX5_closeGroup 89 = .ok (.iload 4, 2) := by decide +kernel
theorem dX5_closeGroup_91 : decode cX5_closeGroup 91 = .ok (.aload_n 0, 1) := by decide +kernel
theorem dX5_closeGroup_92 : decode cX5_closeGroup 92 = .ok (.getfield 9, 3) := by decide +kernel
theorem dX5_closeGroup_95 : decode cX5_closeGroup 95 = .ok (.iload 4, 2) := by decide +kernel
theorem dX5_closeGroup_97 : decode cX5_closeGroup 97 = .ok (.iload_n 3, 1) := by decide +kernel
theorem dX5_closeGroup_98 : decode cX5_closeGroup 98 = .ok (.isub, 1) := by decide +kernel
theorem dX5_closeGroup_99 : decode cX5_closeGroup 99 = .ok (.iaload, 1) := by decide +kernel
theorem dX5_closeGroup_100 : decode cX5_closeGroup 100 = .ok (.iastore, 1) := by decide +kernel
theorem dX5_closeGroup_101 : decode cX5_closeGroup 101 = .ok (.iinc 4 1, 3) := by decide +kernel
theorem dX5_closeGroup_104 : decode cX5_closeGroup 104 = .ok (.goto (-28), 3) := by decide +kernel
theorem dX5_closeGroup_107 : decode cX5_closeGroup 107 = .ok (.aload_n 0, 1) := by decide +kernel
theorem dX5_closeGroup_108 : decode cX5_closeGroup 108 = .ok (.iload_n 2, 1) := by decide +kernel
theorem dX5_closeGroup_109 : decode cX5_closeGroup 109 = .ok (.invokevirtual 72, 3) := by decide +kernel
theorem dX5_closeGroup_112 : decode cX5_closeGroup 112 = .ok (.ireturn, 1) := by decide +kernel
theorem dX5_turnItem_0 : decode cX5_turnItem 0 = .ok (.aload_n 0, 1) := by decide +kernel
theorem dX5_turnItem_1 : decode cX5_turnItem 1 = .ok (.getfield 31, 3) := by decide +kernel
theorem dX5_turnItem_4 : decode cX5_turnItem 4 = .ok (.istore_n 2, 1) := by decide +kernel
theorem dX5_turnItem_5 : decode cX5_turnItem 5 = .ok (.aload_n 0, 1) := by decide +kernel
theorem dX5_turnItem_6 : decode cX5_turnItem 6 = .ok (.iconst 0, 1) := by decide +kernel
theorem dX5_turnItem_7 : decode cX5_turnItem 7 = .ok (.putfield 31, 3) := by decide +kernel
theorem dX5_turnItem_10 : decode cX5_turnItem 10 = .ok (.iconst 0, 1) := by decide +kernel
theorem dX5_turnItem_11 : decode cX5_turnItem 11 = .ok (.istore_n 3, 1) := by decide +kernel
theorem dX5_turnItem_12 : decode cX5_turnItem 12 = .ok (.iload_n 3, 1) := by decide +kernel
theorem dX5_turnItem_13 : decode cX5_turnItem 13 = .ok (.iload_n 2, 1) := by decide +kernel
theorem dX5_turnItem_14 : decode cX5_turnItem 14 = .ok (.if_icmp .ge 19, 3) := by decide +kernel
theorem dX5_turnItem_17 : decode cX5_turnItem 17 = .ok (.aload_n 0, 1) := by decide +kernel
theorem dX5_turnItem_18 : decode cX5_turnItem 18 = .ok (.iload_n 1, 1) := by decide +kernel
theorem dX5_turnItem_19 : decode cX5_turnItem 19 = .ok (.invokevirtual 75, 3) := by decide +kernel
theorem dX5_turnItem_22 : decode cX5_turnItem 22 = .ok (.ifCond .ne 5, 3) := by decide +kernel
theorem dX5_turnItem_25 : decode cX5_turnItem 25 = .ok (.iconst 0, 1) := by decide +kernel
theorem dX5_turnItem_26 : decode cX5_turnItem 26 = .ok (.ireturn, 1) := by decide +kernel
theorem dX5_turnItem_27 : decode cX5_turnItem 27 = .ok (.iinc 3 1, 3) := by decide +kernel
theorem dX5_turnItem_30 : decode cX5_turnItem 30 = .ok (.goto (-18), 3) := by decide +kernel
theorem dX5_turnItem_33 : decode cX5_turnItem 33 = .ok (.iconst 1, 1) := by decide +kernel
theorem dX5_turnItem_34 : decode cX5_turnItem 34 = .ok (.ireturn, 1) := by decide +kernel
theorem dX5_turnOnce_0 : decode cX5_turnOnce 0 = .ok (.aload_n 0, 1) := by decide +kernel
theorem dX5_turnOnce_1 : decode cX5_turnOnce 1 = .ok (.getfield 24, 3) := by decide +kernel
theorem dX5_turnOnce_4 : decode cX5_turnOnce 4 = .ok (.iload_n 1, 1) := by decide +kernel
theorem dX5_turnOnce_5 : decode cX5_turnOnce 5 = .ok (.isub, 1) := by decide +kernel
theorem dX5_turnOnce_6 : decode cX5_turnOnce 6 = .ok (.istore_n 2, 1) := by decide +kernel
theorem dX5_turnOnce_7 : decode cX5_turnOnce 7 = .ok (.iload_n 2, 1) := by decide +kernel
theorem dX5_turnOnce_8 : decode cX5_turnOnce 8 = .ok (.bipush 60, 2) := by decide +kernel
theorem dX5_turnOnce_10 : decode cX5_turnOnce 10 = .ok (.if_icmp .le 5, 3) := by decide +kernel
theorem dX5_turnOnce_13 : decode cX5_turnOnce 13 = .ok (.iconst 0, 1) := by decide +kernel
theorem dX5_turnOnce_14 : decode cX5_turnOnce 14 = .ok (.ireturn, 1) := by decide +kernel
theorem dX5_turnOnce_15 : decode cX5_turnOnce 15 = .ok (.iconst 0, 1) := by decide +kernel
theorem dX5_turnOnce_16 : decode cX5_turnOnce 16 = .ok (.istore_n 3, 1) := by decide +kernel
theorem dX5_turnOnce_17 : decode cX5_turnOnce 17 = .ok (.iconst 0, 1) := by decide +kernel
theorem dX5_turnOnce_18 : decode cX5_turnOnce 18 = .ok (.istore 4, 2) := by decide +kernel
theorem dX5_turnOnce_20 : decode cX5_turnOnce 20 = .ok (.iload 4, 2) := by decide +kernel
theorem dX5_turnOnce_22 : decode cX5_turnOnce 22 = .ok (.iload_n 2, 1) := by decide +kernel
theorem dX5_turnOnce_23 : decode cX5_turnOnce 23 = .ok (.if_icmp .ge 38, 3) := by decide +kernel
theorem dX5_turnOnce_26 : decode cX5_turnOnce 26 = .ok (.aload_n 0, 1) := by decide +kernel
theorem dX5_turnOnce_27 : decode cX5_turnOnce 27 = .ok (.getfield 15, 3) := by decide +kernel
theorem dX5_turnOnce_30 : decode cX5_turnOnce 30 = .ok (.iload 4, 2) := by decide +kernel
theorem dX5_turnOnce_32 : decode cX5_turnOnce 32 = .ok (.aload_n 0, 1) := by decide +kernel
theorem dX5_turnOnce_33 : decode cX5_turnOnce 33 = .ok (.getfield 9, 3) := by decide +kernel
theorem dX5_turnOnce_36 : decode cX5_turnOnce 36 = .ok (.iload_n 1, 1) := by decide +kernel
theorem dX5_turnOnce_37 : decode cX5_turnOnce 37 = .ok (.iload 4, 2) := by decide +kernel
theorem dX5_turnOnce_39 : decode cX5_turnOnce 39 = .ok (.iadd, 1) := by decide +kernel
theorem dX5_turnOnce_40 : decode cX5_turnOnce 40 = .ok (.iaload, 1) := by decide +kernel
theorem dX5_turnOnce_41 : decode cX5_turnOnce 41 = .ok (.iastore, 1) := by decide +kernel
theorem dX5_turnOnce_42 : decode cX5_turnOnce 42 = .ok (.iload_n 3, 1) := by decide +kernel
theorem dX5_turnOnce_43 : decode cX5_turnOnce 43 = .ok (.aload_n 0, 1) := by decide +kernel
theorem dX5_turnOnce_44 : decode cX5_turnOnce 44 = .ok (.getfield 15, 3) := by decide +kernel
theorem dX5_turnOnce_47 : decode cX5_turnOnce 47 = .ok (.iload 4, 2) := by decide +kernel
theorem dX5_turnOnce_49 : decode cX5_turnOnce 49 = .ok (.iaload, 1) := by decide +kernel
theorem dX5_turnOnce_50 : decode cX5_turnOnce 50 = .ok (.invokestatic 78, 3) := by decide +kernel
theorem dX5_turnOnce_53 : decode cX5_turnOnce 53 = .ok (.iadd, 1) := by decide +kernel
theorem dX5_turnOnce_54 : decode cX5_turnOnce 54 = .ok (.istore_n 3, 1) := by decide +kernel
theorem dX5_turnOnce_55 : decode cX5_turnOnce 55 = .ok (.iinc 4 1, 3) := by decide +kernel
theorem dX5_turnOnce_58 : decode cX5_turnOnce 58 = .ok (.goto (-38), 3) := by decide +kernel
theorem dX5_turnOnce_61 : decode cX5_turnOnce 61 = .ok (.aload_n 0, 1) := by decide +kernel
theorem dX5_turnOnce_62 : decode cX5_turnOnce 62 = .ok (.iload_n 1, 1) := by decide +kernel
theorem dX5_turnOnce_63 : decode cX5_turnOnce 63 = .ok (.iload_n 3, 1) := by decide +kernel
theorem dX5_turnOnce_64 : decode cX5_turnOnce 64 = .ok (.invokevirtual 68, 3) := by decide +kernel
theorem dX5_turnOnce_67 : decode cX5_turnOnce 67 = .ok (.ifCond .ne 5, 3) := by decide +kernel
theorem dX5_turnOnce_70 : decode cX5_turnOnce 70 = .ok (.iconst 0, 1) := by decide +kernel
theorem dX5_turnOnce_71 : decode cX5_turnOnce 71 = .ok (.ireturn, 1) := by decide +kernel
theorem dX5_turnOnce_72 : decode cX5_turnOnce 72 = .ok (.aload_n 0, 1) := by decide +kernel
theorem dX5_turnOnce_73 : decode cX5_turnOnce 73 = .ok (.iload_n 1, 1) := by decide +kernel
theorem dX5_turnOnce_74 : decode cX5_turnOnce 74 = .ok (.putfield 24, 3) := by decide +kernel
theorem dX5_turnOnce_77 : decode cX5_turnOnce 77 = .ok (.iload_n 2, 1) := by decide +kernel
theorem dX5_turnOnce_78 : decode cX5_turnOnce 78 = .ok (.iconst 1, 1) := by decide +kernel
theorem dX5_turnOnce_79 : decode cX5_turnOnce 79 = .ok (.isub, 1) := by decide +kernel
theorem dX5_turnOnce_80 : decode cX5_turnOnce 80 = .ok (.istore 4, 2) := by decide +kernel
theorem dX5_turnOnce_82 : decode cX5_turnOnce 82 = .ok (.iload 4, 2) := by decide +kernel
theorem dX5_turnOnce_84 : decode cX5_turnOnce 84 = .ok (.ifCond .lt 80, 3) := by decide +kernel
theorem dX5_turnOnce_87 : decode cX5_turnOnce 87 = .ok (.aload_n 0, 1) := by decide +kernel
theorem dX5_turnOnce_88 : decode cX5_turnOnce 88 = .ok (.getfield 15, 3) := by decide +kernel
theorem dX5_turnOnce_91 : decode cX5_turnOnce 91 = .ok (.iload 4, 2) := by decide +kernel
theorem dX5_turnOnce_93 : decode cX5_turnOnce 93 = .ok (.iaload, 1) := by decide +kernel
theorem dX5_turnOnce_94 : decode cX5_turnOnce 94 = .ok (.invokestatic 78, 3) := by decide +kernel
theorem dX5_turnOnce_97 : decode cX5_turnOnce 97 = .ok (.istore 5, 2) := by decide +kernel
theorem dX5_turnOnce_99 : decode cX5_turnOnce 99 = .ok (.iconst 0, 1) := by decide +kernel
theorem dX5_turnOnce_100 : decode cX5_turnOnce 100 = .ok (.istore 6, 2) := by decide +kernel
theorem dX5_turnOnce_102 : decode cX5_turnOnce 102 = .ok (.iload 6, 2) := by decide +kernel
theorem dX5_turnOnce_104 : decode cX5_turnOnce 104 = .ok (.iload 5, 2) := by decide +kernel
theorem dX5_turnOnce_106 : decode cX5_turnOnce 106 = .ok (.if_icmp .ge 52, 3) := by decide +kernel
theorem dX5_turnOnce_109 : decode cX5_turnOnce 109 = .ok (.aload_n 0, 1) := by decide +kernel
theorem dX5_turnOnce_110 : decode cX5_turnOnce 110 = .ok (.getfield 24, 3) := by decide +kernel
theorem dX5_turnOnce_113 : decode cX5_turnOnce 113 = .ok (.aload_n 0, 1) := by decide +kernel
theorem dX5_turnOnce_114 : decode cX5_turnOnce 114 = .ok (.getfield 9, 3) := by decide +kernel
theorem dX5_turnOnce_117 : decode cX5_turnOnce 117 = .ok (.arraylength, 1) := by decide +kernel
theorem dX5_turnOnce_118 : decode cX5_turnOnce 118 = .ok (.if_icmp .ge 40, 3) := by decide +kernel
theorem dX5_turnOnce_121 : decode cX5_turnOnce 121 = .ok (.aload_n 0, 1) := by decide +kernel
theorem dX5_turnOnce_122 : decode cX5_turnOnce 122 = .ok (.getfield 9, 3) := by decide +kernel
theorem dX5_turnOnce_125 : decode cX5_turnOnce 125 = .ok (.aload_n 0, 1) := by decide +kernel
theorem dX5_turnOnce_126 : decode cX5_turnOnce 126 = .ok (.getfield 24, 3) := by decide +kernel
theorem dX5_turnOnce_129 : decode cX5_turnOnce 129 = .ok (.aload_n 0, 1) := by decide +kernel
theorem dX5_turnOnce_130 : decode cX5_turnOnce 130 = .ok (.getfield 15, 3) := by decide +kernel
theorem dX5_turnOnce_133 : decode cX5_turnOnce 133 = .ok (.iload 4, 2) := by decide +kernel
theorem dX5_turnOnce_135 : decode cX5_turnOnce 135 = .ok (.iaload, 1) := by decide +kernel
theorem dX5_turnOnce_136 : decode cX5_turnOnce 136 = .ok (.iload 6, 2) := by decide +kernel
theorem dX5_turnOnce_138 : decode cX5_turnOnce 138 = .ok (.invokestatic 81, 3) := by decide +kernel
theorem dX5_turnOnce_141 : decode cX5_turnOnce 141 = .ok (.iastore, 1) := by decide +kernel
theorem dX5_turnOnce_142 : decode cX5_turnOnce 142 = .ok (.aload_n 0, 1) := by decide +kernel
theorem dX5_turnOnce_143 : decode cX5_turnOnce 143 = .ok (.dup, 1) := by decide +kernel
theorem dX5_turnOnce_144 : decode cX5_turnOnce 144 = .ok (.getfield 24, 3) := by decide +kernel
theorem dX5_turnOnce_147 : decode cX5_turnOnce 147 = .ok (.iconst 1, 1) := by decide +kernel
theorem dX5_turnOnce_148 : decode cX5_turnOnce 148 = .ok (.iadd, 1) := by decide +kernel
theorem dX5_turnOnce_149 : decode cX5_turnOnce 149 = .ok (.putfield 24, 3) := by decide +kernel
theorem dX5_turnOnce_152 : decode cX5_turnOnce 152 = .ok (.iinc 6 1, 3) := by decide +kernel
theorem dX5_turnOnce_155 : decode cX5_turnOnce 155 = .ok (.goto (-53), 3) := by decide +kernel
theorem dX5_turnOnce_158 : decode cX5_turnOnce 158 = .ok (.iinc 4 (-1), 3) := by decide +kernel
theorem dX5_turnOnce_161 : decode cX5_turnOnce 161 = .ok (.goto (-79), 3) := by decide +kernel
theorem dX5_turnOnce_164 : decode cX5_turnOnce 164 = .ok (.iconst 1, 1) := by decide +kernel
theorem dX5_turnOnce_165 : decode cX5_turnOnce 165 = .ok (.ireturn, 1) := by decide +kernel
theorem dX5_widthOf_0 : decode cX5_widthOf 0 = .ok (.iload_n 0, 1) := by decide +kernel
theorem dX5_widthOf_1 : decode cX5_widthOf 1 = .ok (.iconst 2, 1) := by decide +kernel
theorem dX5_widthOf_2 : decode cX5_widthOf 2 = .ok (.if_icmp .ne 5, 3) := by decide +kernel
theorem dX5_widthOf_5 : decode cX5_widthOf 5 = .ok (.iconst 2, 1) := by decide +kernel
theorem dX5_widthOf_6 : decode cX5_widthOf 6 = .ok (.ireturn, 1) := by decide +kernel
theorem dX5_widthOf_7 : decode cX5_widthOf 7 = .ok (.iload_n 0, 1) := by decide +kernel
theorem dX5_widthOf_8 : decode cX5_widthOf 8 = .ok (.iconst 5, 1) := by decide +kernel
theorem dX5_widthOf_9 : decode cX5_widthOf 9 = .ok (.if_icmp .ne 8, 3) := by decide +kernel
theorem dX5_widthOf_12 : decode cX5_widthOf 12 = .ok (.bipush 7, 2) := by decide +kernel
theorem dX5_widthOf_14 : decode cX5_widthOf 14 = .ok (.goto 4, 3) := by decide +kernel
theorem dX5_widthOf_17 : decode cX5_widthOf 17 = .ok (.iconst 1, 1) := by decide +kernel
theorem dX5_widthOf_18 : decode cX5_widthOf 18 = .ok (.ireturn, 1) := by decide +kernel
theorem dX5_turnedGate_0 : decode cX5_turnedGate 0 = .ok (.iload_n 0, 1) := by decide +kernel
theorem dX5_turnedGate_1 : decode cX5_turnedGate 1 = .ok (.lookupswitch 50 #[(1, 35), (2, 40), (6, 38)], 35) := by decide +kernel
theorem dX5_turnedGate_36 : decode cX5_turnedGate 36 = .ok (.bipush 6, 2) := by decide +kernel
theorem dX5_turnedGate_38 : decode cX5_turnedGate 38 = .ok (.ireturn, 1) := by decide +kernel
theorem dX5_turnedGate_39 : decode cX5_turnedGate 39 = .ok (.iconst 1, 1) := by decide +kernel
theorem dX5_turnedGate_40 : decode cX5_turnedGate 40 = .ok (.ireturn, 1) := by decide +kernel
theorem dX5_turnedGate_41 : decode cX5_turnedGate 41 = .ok (.iload_n 1, 1) := by decide +kernel
theorem dX5_turnedGate_42 : decode cX5_turnedGate 42 = .ok (.ifCond .ne 7, 3) := by decide +kernel
theorem dX5_turnedGate_45 : decode cX5_turnedGate 45 = .ok (.iconst 2, 1) := by decide +kernel
theorem dX5_turnedGate_46 : decode cX5_turnedGate 46 = .ok (.goto 4, 3) := by decide +kernel
theorem dX5_turnedGate_49 : decode cX5_turnedGate 49 = .ok (.iconst 4, 1) := by decide +kernel
theorem dX5_turnedGate_50 : decode cX5_turnedGate 50 = .ok (.ireturn, 1) := by decide +kernel
theorem dX5_turnedGate_51 : decode cX5_turnedGate 51 = .ok (.iload_n 0, 1) := by decide +kernel
theorem dX5_turnedGate_52 : decode cX5_turnedGate 52 = .ok (.ireturn, 1) := by decide +kernel
theorem dX6_init_0 : decode cX6_init 0 = .ok (.aload_n 0, 1) := by decide +kernel
theorem dX6_init_1 : decode cX6_init 1 = .ok (.invokespecial 3, 3) := by decide +kernel
theorem dX6_init_4 : decode cX6_init 4 = .ok (.aload_n 0, 1) := by decide +kernel
theorem dX6_init_5 : decode cX6_init 5 = .ok (.bipush 60, 2) := by decide +kernel
theorem dX6_init_7 : decode cX6_init 7 = .ok (.newarray .int, 2) := by decide +kernel
theorem dX6_init_9 : decode cX6_init 9 = .ok (.putfield 9, 3) := by decide +kernel
theorem dX6_init_12 : decode cX6_init 12 = .ok (.aload_n 0, 1) := by decide +kernel
theorem dX6_init_13 : decode cX6_init 13 = .ok (.iconst 0, 1) := by decide +kernel
theorem dX6_init_14 : decode cX6_init 14 = .ok (.putfield 15, 3) := by decide +kernel
theorem dX6_init_17 : decode cX6_init 17 = .ok (.return_, 1) := by decide +kernel
theorem dX6_makeCopy_0 : decode cX6_makeCopy 0 = .ok (.aload_n 1, 1) := by decide +kernel
theorem dX6_makeCopy_1 : decode cX6_makeCopy 1 = .ok (.getfield 9, 3) := by decide +kernel
theorem dX6_makeCopy_4 : decode cX6_makeCopy 4 = .ok (.iconst 0, 1) := by decide +kernel
theorem dX6_makeCopy_5 : decode cX6_makeCopy 5 = .ok (.aload_n 0, 1) := by decide +kernel
theorem dX6_makeCopy_6 : decode cX6_makeCopy 6 = .ok (.getfield 9, 3) := by decide +kernel
theorem dX6_makeCopy_9 : decode cX6_makeCopy 9 = .ok (.iconst 0, 1) := by decide +kernel
theorem dX6_makeCopy_10 : decode cX6_makeCopy 10 = .ok (.aload_n 1, 1) := by decide +kernel
theorem dX6_makeCopy_11 : decode cX6_makeCopy 11 = .ok (.getfield 15, 3) := by decide +kernel
theorem dX6_makeCopy_14 : decode cX6_makeCopy 14 = .ok (.invokestatic 19, 3) := by decide +kernel
theorem dX6_makeCopy_17 : decode cX6_makeCopy 17 = .ok (.aload_n 0, 1) := by decide +kernel
theorem dX6_makeCopy_18 : decode cX6_makeCopy 18 = .ok (.aload_n 1, 1) := by decide +kernel
theorem dX6_makeCopy_19 : decode cX6_makeCopy 19 = .ok (.getfield 15, 3) := by decide +kernel
theorem dX6_makeCopy_22 : decode cX6_makeCopy 22 = .ok (.putfield 15, 3) := by decide +kernel
theorem dX6_makeCopy_25 : decode cX6_makeCopy 25 = .ok (.return_, 1) := by decide +kernel
theorem dX6_isSame_0 : decode cX6_isSame 0 = .ok (.aload_n 0, 1) := by decide +kernel
theorem dX6_isSame_1 : decode cX6_isSame 1 = .ok (.getfield 15, 3) := by decide +kernel
theorem dX6_isSame_4 : decode cX6_isSame 4 = .ok (.aload_n 1, 1) := by decide +kernel
theorem dX6_isSame_5 : decode cX6_isSame 5 = .ok (.getfield 15, 3) := by decide +kernel
theorem dX6_isSame_8 : decode cX6_isSame 8 = .ok (.if_icmp .eq 5, 3) := by decide +kernel
theorem dX6_isSame_11 : decode cX6_isSame 11 = .ok (.iconst 0, 1) := by decide +kernel
theorem dX6_isSame_12 : decode cX6_isSame 12 = .ok (.ireturn, 1) := by decide +kernel
theorem dX6_isSame_13 : decode cX6_isSame 13 = .ok (.iconst 0, 1) := by decide +kernel
theorem dX6_isSame_14 : decode cX6_isSame 14 = .ok (.istore_n 2, 1) := by decide +kernel
theorem dX6_isSame_15 : decode cX6_isSame 15 = .ok (.iload_n 2, 1) := by decide +kernel
theorem dX6_isSame_16 : decode cX6_isSame 16 = .ok (.aload_n 0, 1) := by decide +kernel
theorem dX6_isSame_17 : decode cX6_isSame 17 = .ok (.getfield 15, 3) := by decide +kernel
theorem dX6_isSame_20 : decode cX6_isSame 20 = .ok (.if_icmp .ge 26, 3) := by decide +kernel
theorem dX6_isSame_23 : decode cX6_isSame 23 = .ok (.aload_n 0, 1) := by decide +kernel
theorem dX6_isSame_24 : decode cX6_isSame 24 = .ok (.getfield 9, 3) := by decide +kernel
theorem dX6_isSame_27 : decode cX6_isSame 27 = .ok (.iload_n 2, 1) := by decide +kernel
theorem dX6_isSame_28 : decode cX6_isSame 28 = .ok (.iaload, 1) := by decide +kernel
theorem dX6_isSame_29 : decode cX6_isSame 29 = .ok (.aload_n 1, 1) := by decide +kernel
theorem dX6_isSame_30 : decode cX6_isSame 30 = .ok (.getfield 9, 3) := by decide +kernel
theorem dX6_isSame_33 : decode cX6_isSame 33 = .ok (.iload_n 2, 1) := by decide +kernel
theorem dX6_isSame_34 : decode cX6_isSame 34 = .ok (.iaload, 1) := by decide +kernel
theorem dX6_isSame_35 : decode cX6_isSame 35 = .ok (.if_icmp .eq 5, 3) := by decide +kernel
theorem dX6_isSame_38 : decode cX6_isSame 38 = .ok (.iconst 0, 1) := by decide +kernel
theorem dX6_isSame_39 : decode cX6_isSame 39 = .ok (.ireturn, 1) := by decide +kernel
theorem dX6_isSame_40 : decode cX6_isSame 40 = .ok (.iinc 2 1, 3) := by decide +kernel
theorem dX6_isSame_43 : decode cX6_isSame 43 = .ok (.goto (-28), 3) := by decide +kernel
theorem dX6_isSame_46 : decode cX6_isSame 46 = .ok (.iconst 1, 1) := by decide +kernel
theorem dX6_isSame_47 : decode cX6_isSame 47 = .ok (.ireturn, 1) := by decide +kernel
theorem dX6_at_0 : decode cX6_at 0 = .ok (.iload_n 1, 1) := by decide +kernel
theorem dX6_at_1 : decode cX6_at 1 = .ok (.aload_n 0, 1) := by decide +kernel
theorem dX6_at_2 : decode cX6_at 2 = .ok (.getfield 15, 3) := by decide +kernel
theorem dX6_at_5 : decode cX6_at 5 = .ok (.invokestatic 25, 3) := by decide +kernel
theorem dX6_at_8 : decode cX6_at 8 = .ok (.ifCond .eq 12, 3) := by decide +kernel
theorem dX6_at_11 : decode cX6_at 11 = .ok (.aload_n 0, 1) := by decide +kernel
theorem dX6_at_12 : decode cX6_at 12 = .ok (.getfield 9, 3) := by decide +kernel
theorem dX6_at_15 : decode cX6_at 15 = .ok (.iload_n 1, 1) := by decide +kernel
theorem dX6_at_16 : decode cX6_at 16 = .ok (.iaload, 1) := by decide +kernel
theorem dX6_at_17 : decode cX6_at 17 = .ok (.goto 5, 3) := by decide +kernel
theorem dX6_at_20 : decode cX6_at 20 = .ok (.bipush (-2), 2) := by decide +kernel
theorem dX6_at_22 : decode cX6_at 22 = .ok (.ireturn, 1) := by decide +kernel
theorem dX6_add_0 : decode cX6_add 0 = .ok (.aload_n 0, 1) := by decide +kernel
theorem dX6_add_1 : decode cX6_add 1 = .ok (.getfield 15, 3) := by decide +kernel
theorem dX6_add_4 : decode cX6_add 4 = .ok (.bipush 60, 2) := by decide +kernel
theorem dX6_add_6 : decode cX6_add 6 = .ok (.if_icmp .lt 5, 3) := by decide +kernel
theorem dX6_add_9 : decode cX6_add 9 = .ok (.iconst 0, 1) := by decide +kernel
theorem dX6_add_10 : decode cX6_add 10 = .ok (.ireturn, 1) := by decide +kernel
theorem dX6_add_11 : decode cX6_add 11 = .ok (.aload_n 0, 1) := by decide +kernel
theorem dX6_add_12 : decode cX6_add 12 = .ok (.getfield 9, 3) := by decide +kernel
theorem dX6_add_15 : decode cX6_add 15 = .ok (.aload_n 0, 1) := by decide +kernel
theorem dX6_add_16 : decode cX6_add 16 = .ok (.getfield 15, 3) := by decide +kernel
theorem dX6_add_19 : decode cX6_add 19 = .ok (.iload_n 1, 1) := by decide +kernel
theorem dX6_add_20 : decode cX6_add 20 = .ok (.iastore, 1) := by decide +kernel
theorem dX6_add_21 : decode cX6_add 21 = .ok (.aload_n 0, 1) := by decide +kernel
theorem dX6_add_22 : decode cX6_add 22 = .ok (.dup, 1) := by decide +kernel
theorem dX6_add_23 : decode cX6_add 23 = .ok (.getfield 15, 3) := by decide +kernel
theorem dX6_add_26 : decode cX6_add 26 = .ok (.iconst 1, 1) := by decide +kernel
theorem dX6_add_27 : decode cX6_add 27 = .ok (.iadd, 1) := by decide +kernel
theorem dX6_add_28 : decode cX6_add 28 = .ok (.putfield 15, 3) := by decide +kernel
theorem dX6_add_31 : decode cX6_add 31 = .ok (.iconst 1, 1) := by decide +kernel
theorem dX6_add_32 : decode cX6_add 32 = .ok (.ireturn, 1) := by decide +kernel
theorem dX6_cut_0 : decode cX6_cut 0 = .ok (.iload_n 1, 1) := by decide +kernel
theorem dX6_cut_1 : decode cX6_cut 1 = .ok (.ifCond .lt 17, 3) := by decide +kernel
theorem dX6_cut_4 : decode cX6_cut 4 = .ok (.iload_n 2, 1) := by decide +kernel
theorem dX6_cut_5 : decode cX6_cut 5 = .ok (.ifCond .lt 13, 3) := by decide +kernel
theorem dX6_cut_8 : decode cX6_cut 8 = .ok (.iload_n 1, 1) := by decide +kernel
theorem dX6_cut_9 : decode cX6_cut 9 = .ok (.iload_n 2, 1) := by decide +kernel
theorem dX6_cut_10 : decode cX6_cut 10 = .ok (.iadd, 1) := by decide +kernel
theorem dX6_cut_11 : decode cX6_cut 11 = .ok (.aload_n 0, 1) := by decide +kernel
theorem dX6_cut_12 : decode cX6_cut 12 = .ok (.getfield 15, 3) := by decide +kernel
theorem dX6_cut_15 : decode cX6_cut 15 = .ok (.if_icmp .le 4, 3) := by decide +kernel
theorem dX6_cut_18 : decode cX6_cut 18 = .ok (.return_, 1) := by decide +kernel
theorem dX6_cut_19 : decode cX6_cut 19 = .ok (.iload_n 1, 1) := by decide +kernel
theorem dX6_cut_20 : decode cX6_cut 20 = .ok (.iload_n 2, 1) := by decide +kernel
theorem dX6_cut_21 : decode cX6_cut 21 = .ok (.iadd, 1) := by decide +kernel
theorem dX6_cut_22 : decode cX6_cut 22 = .ok (.istore_n 3, 1) := by decide +kernel
theorem dX6_cut_23 : decode cX6_cut 23 = .ok (.iload_n 3, 1) := by decide +kernel
theorem dX6_cut_24 : decode cX6_cut 24 = .ok (.aload_n 0, 1) := by decide +kernel
theorem dX6_cut_25 : decode cX6_cut 25 = .ok (.getfield 15, 3) := by decide +kernel
theorem dX6_cut_28 : decode cX6_cut 28 = .ok (.if_icmp .ge 23, 3) := by decide +kernel
theorem dX6_cut_31 : decode cX6_cut 31 = .ok (.aload_n 0, 1) := by decide +kernel
theorem dX6_cut_32 : decode cX6_cut 32 = .ok (.getfield 9, 3) := by decide +kernel
theorem dX6_cut_35 : decode cX6_cut 35 = .ok (.iload_n 3, 1) := by decide +kernel
theorem dX6_cut_36 : decode cX6_cut 36 = .ok (.iload_n 2, 1) := by decide +kernel
theorem dX6_cut_37 : decode cX6_cut 37 = .ok (.isub, 1) := by decide +kernel
theorem dX6_cut_38 : decode cX6_cut 38 = .ok (.aload_n 0, 1) := by decide +kernel
theorem dX6_cut_39 : decode cX6_cut 39 = .ok (.getfield 9, 3) := by decide +kernel
theorem dX6_cut_42 : decode cX6_cut 42 = .ok (.iload_n 3, 1) := by decide +kernel
theorem dX6_cut_43 : decode cX6_cut 43 = .ok (.iaload, 1) := by decide +kernel
theorem dX6_cut_44 : decode cX6_cut 44 = .ok (.iastore, 1) := by decide +kernel
theorem dX6_cut_45 : decode cX6_cut 45 = .ok (.iinc 3 1, 3) := by decide +kernel
theorem dX6_cut_48 : decode cX6_cut 48 = .ok (.goto (-25), 3) := by decide +kernel
theorem dX6_cut_51 : decode cX6_cut 51 = .ok (.aload_n 0, 1) := by decide +kernel
theorem dX6_cut_52 : decode cX6_cut 52 = .ok (.dup, 1) := by decide +kernel
theorem dX6_cut_53 : decode cX6_cut 53 = .ok (.getfield 15, 3) := by decide +kernel
theorem dX6_cut_56 : decode cX6_cut 56 = .ok (.iload_n 2, 1) := by decide +kernel
theorem dX6_cut_57 : decode cX6_cut 57 = .ok (.isub, 1) := by decide +kernel
theorem dX6_cut_58 : decode cX6_cut 58 = .ok (.putfield 15, 3) := by decide +kernel
theorem dX6_cut_61 : decode cX6_cut 61 = .ok (.return_, 1) := by decide +kernel
theorem dX6_countOf_0 : decode cX6_countOf 0 = .ok (.iconst 0, 1) := by decide +kernel
theorem dX6_countOf_1 : decode cX6_countOf 1 = .ok (.istore_n 2, 1) := by decide +kernel
theorem dX6_countOf_2 : decode cX6_countOf 2 = .ok (.iconst 0, 1) := by decide +kernel
theorem dX6_countOf_3 : decode cX6_countOf 3 = .ok (.istore_n 3, 1) := by decide +kernel
theorem dX6_countOf_4 : decode cX6_countOf 4 = .ok (.iload_n 3, 1) := by decide +kernel
theorem dX6_countOf_5 : decode cX6_countOf 5 = .ok (.aload_n 0, 1) := by decide +kernel
theorem dX6_countOf_6 : decode cX6_countOf 6 = .ok (.getfield 15, 3) := by decide +kernel
theorem dX6_countOf_9 : decode cX6_countOf 9 = .ok (.if_icmp .ge 22, 3) := by decide +kernel
theorem dX6_countOf_12 : decode cX6_countOf 12 = .ok (.aload_n 0, 1) := by decide +kernel
theorem dX6_countOf_13 : decode cX6_countOf 13 = .ok (.getfield 9, 3) := by decide +kernel
theorem dX6_countOf_16 : decode cX6_countOf 16 = .ok (.iload_n 3, 1) := by decide +kernel
theorem dX6_countOf_17 : decode cX6_countOf 17 = .ok (.iaload, 1) := by decide +kernel
theorem dX6_countOf_18 : decode cX6_countOf 18 = .ok (.iload_n 1, 1) := by decide +kernel
theorem dX6_countOf_19 : decode cX6_countOf 19 = .ok (.if_icmp .ne 6, 3) := by decide +kernel
theorem dX6_countOf_22 : decode cX6_countOf 22 = .ok (.iinc 2 1, 3) := by decide +kernel
theorem dX6_countOf_25 : decode cX6_countOf 25 = .ok (.iinc 3 1, 3) := by decide +kernel
theorem dX6_countOf_28 : decode cX6_countOf 28 = .ok (.goto (-24), 3) := by decide +kernel
theorem dX6_countOf_31 : decode cX6_countOf 31 = .ok (.iload_n 2, 1) := by decide +kernel
theorem dX6_countOf_32 : decode cX6_countOf 32 = .ok (.ireturn, 1) := by decide +kernel
theorem dX6_costBy_0 : decode cX6_costBy 0 = .ok (.iconst 0, 1) := by decide +kernel
theorem dX6_costBy_1 : decode cX6_costBy 1 = .ok (.istore_n 2, 1) := by decide +kernel
theorem dX6_costBy_2 : decode cX6_costBy 2 = .ok (.iconst 0, 1) := by decide +kernel
theorem dX6_costBy_3 : decode cX6_costBy 3 = .ok (.istore_n 3, 1) := by decide +kernel
theorem dX6_costBy_4 : decode cX6_costBy 4 = .ok (.iload_n 3, 1) := by decide +kernel
theorem dX6_costBy_5 : decode cX6_costBy 5 = .ok (.aload_n 0, 1) := by decide +kernel
theorem dX6_costBy_6 : decode cX6_costBy 6 = .ok (.getfield 15, 3) := by decide +kernel
theorem dX6_costBy_9 : decode cX6_costBy 9 = .ok (.if_icmp .ge 20, 3) := by decide +kernel
theorem dX6_costBy_12 : decode cX6_costBy 12 = .ok (.iload_n 2, 1) := by decide +kernel
theorem dX6_costBy_13 : decode cX6_costBy 13 = .ok (.aload_n 1, 1) := by decide +kernel
theorem dX6_costBy_14 : decode cX6_costBy 14 = .ok (.aload_n 0, 1) := by decide +kernel
theorem dX6_costBy_15 : decode cX6_costBy 15 = .ok (.getfield 9, 3) := by decide +kernel
theorem dX6_costBy_18 : decode cX6_costBy 18 = .ok (.iload_n 3, 1) := by decide +kernel
theorem dX6_costBy_19 : decode cX6_costBy 19 = .ok (.iaload, 1) := by decide +kernel
theorem dX6_costBy_20 : decode cX6_costBy 20 = .ok (.iaload, 1) := by decide +kernel
theorem dX6_costBy_21 : decode cX6_costBy 21 = .ok (.iadd, 1) := by decide +kernel
theorem dX6_costBy_22 : decode cX6_costBy 22 = .ok (.istore_n 2, 1) := by decide +kernel
theorem dX6_costBy_23 : decode cX6_costBy 23 = .ok (.iinc 3 1, 3) := by decide +kernel
theorem dX6_costBy_26 : decode cX6_costBy 26 = .ok (.goto (-22), 3) := by decide +kernel
theorem dX6_costBy_29 : decode cX6_costBy 29 = .ok (.iload_n 2, 1) := by decide +kernel
theorem dX6_costBy_30 : decode cX6_costBy 30 = .ok (.ireturn, 1) := by decide +kernel
theorem dX6_shorten_0 : decode cX6_shorten 0 = .ok (.iconst 1, 1) := by decide +kernel
theorem dX6_shorten_1 : decode cX6_shorten 1 = .ok (.istore_n 1, 1) := by decide +kernel
theorem dX6_shorten_2 : decode cX6_shorten 2 = .ok (.iconst 0, 1) := by decide +kernel
theorem dX6_shorten_3 : decode cX6_shorten 3 = .ok (.istore_n 2, 1) := by decide +kernel
theorem dX6_shorten_4 : decode cX6_shorten 4 = .ok (.iload_n 2, 1) := by decide +kernel
theorem dX6_shorten_5 : decode cX6_shorten 5 = .ok (.bipush 120, 2) := by decide +kernel
theorem dX6_shorten_7 : decode cX6_shorten 7 = .ok (.if_icmp .ge 18, 3) := by decide +kernel
theorem dX6_shorten_10 : decode cX6_shorten 10 = .ok (.iload_n 1, 1) := by decide +kernel
theorem dX6_shorten_11 : decode cX6_shorten 11 = .ok (.ifCond .eq 14, 3) := by decide +kernel
theorem dX6_shorten_14 : decode cX6_shorten 14 = .ok (.aload_n 0, 1) := by decide +kernel
theorem dX6_shorten_15 : decode cX6_shorten 15 = .ok (.invokevirtual 29, 3) := by decide +kernel
theorem dX6_shorten_18 : decode cX6_shorten 18 = .ok (.istore_n 1, 1) := by decide +kernel
theorem dX6_shorten_19 : decode cX6_shorten 19 = .ok (.iinc 2 1, 3) := by decide +kernel
theorem dX6_shorten_22 : decode cX6_shorten 22 = .ok (.goto (-18), 3) := by decide +kernel
theorem dX6_shorten_25 : decode cX6_shorten 25 = .ok (.return_, 1) := by decide +kernel
theorem dX6_shortenOnce_0 : decode cX6_shortenOnce 0 = .ok (.iconst 0, 1) := by decide +kernel
theorem dX6_shortenOnce_1 : decode cX6_shortenOnce 1 = .ok (.istore_n 1, 1) := by decide +kernel
theorem dX6_shortenOnce_2 : decode cX6_shortenOnce 2 = .ok (.iload_n 1, 1) := by decide +kernel
theorem dX6_shortenOnce_3 : decode cX6_shortenOnce 3 = .ok (.aload_n 0, 1) := by decide +kernel
theorem dX6_shortenOnce_4 : decode cX6_shortenOnce 4 = .ok (.getfield 15, 3) := by decide +kernel
theorem dX6_shortenOnce_7 : decode cX6_shortenOnce 7 = .ok (.if_icmp .ge 19, 3) := by decide +kernel
theorem dX6_shortenOnce_10 : decode cX6_shortenOnce 10 = .ok (.aload_n 0, 1) := by decide +kernel
theorem dX6_shortenOnce_11 : decode cX6_shortenOnce 11 = .ok (.iload_n 1, 1) := by decide +kernel
theorem dX6_shortenOnce_12 : decode cX6_shortenOnce 12 = .ok (.invokevirtual 33, 3) := by decide +kernel
theorem dX6_shortenOnce_15 : decode cX6_shortenOnce 15 = .ok (.ifCond .eq 5, 3) := by decide +kernel
theorem dX6_shortenOnce_18 : decode cX6_shortenOnce 18 = .ok (.iconst 1, 1) := by decide +kernel
theorem dX6_shortenOnce_19 : decode cX6_shortenOnce 19 = .ok (.ireturn, 1) := by decide +kernel
theorem dX6_shortenOnce_20 : decode cX6_shortenOnce 20 = .ok (.iinc 1 1, 3) := by decide +kernel
theorem dX6_shortenOnce_23 : decode cX6_shortenOnce 23 = .ok (.goto (-21), 3) := by decide +kernel
theorem dX6_shortenOnce_26 : decode cX6_shortenOnce 26 = .ok (.iconst 0, 1) := by decide +kernel
theorem dX6_shortenOnce_27 : decode cX6_shortenOnce 27 = .ok (.ireturn, 1) := by decide +kernel
theorem dX6_shortenAt_0 : decode cX6_shortenAt 0 = .ok (.aload_n 0, 1) := by decide +kernel
theorem dX6_shortenAt_1 : decode cX6_shortenAt 1 = .ok (.getfield 9, 3) := by decide +kernel
theorem dX6_shortenAt_4 : decode cX6_shortenAt 4 = .ok (.iload_n 1, 1) := by decide +kernel
theorem dX6_shortenAt_5 : decode cX6_shortenAt 5 = .ok (.iaload, 1) := by decide +kernel
theorem dX6_shortenAt_6 : decode cX6_shortenAt 6 = .ok (.istore_n 2, 1) := by decide +kernel
theorem dX6_shortenAt_7 : decode cX6_shortenAt 7 = .ok (.aload_n 0, 1) := by decide +kernel
theorem dX6_shortenAt_8 : decode cX6_shortenAt 8 = .ok (.iload_n 1, 1) := by decide +kernel
theorem dX6_shortenAt_9 : decode cX6_shortenAt 9 = .ok (.iconst 1, 1) := by decide +kernel
theorem dX6_shortenAt_10 : decode cX6_shortenAt 10 = .ok (.iadd, 1) := by decide +kernel
theorem dX6_shortenAt_11 : decode cX6_shortenAt 11 = .ok (.invokevirtual 37, 3) := by decide +kernel
theorem dX6_shortenAt_14 : decode cX6_shortenAt 14 = .ok (.istore_n 3, 1) := by decide +kernel
theorem dX6_shortenAt_15 : decode cX6_shortenAt 15 = .ok (.iload_n 2, 1) := by decide +kernel
theorem dX6_shortenAt_16 : decode cX6_shortenAt 16 = .ok (.iload_n 3, 1) := by decide +kernel
theorem dX6_shortenAt_17 : decode cX6_shortenAt 17 = .ok (.invokestatic 41, 3) := by decide +kernel
theorem dX6_shortenAt_20 : decode cX6_shortenAt 20 = .ok (.ifCond .eq 11, 3) := by decide +kernel
theorem dX6_shortenAt_23 : decode cX6_shortenAt 23 = .ok (.aload_n 0, 1) := by decide +kernel
theorem dX6_shortenAt_24 : decode cX6_shortenAt 24 = .ok (.iload_n 1, 1) := by decide +kernel
theorem dX6_shortenAt_25 : decode cX6_shortenAt 25 = .ok (.iconst 2, 1) := by decide +kernel
theorem dX6_shortenAt_26 : decode cX6_shortenAt 26 = .ok (.invokevirtual 44, 3) := by decide +kernel
theorem dX6_shortenAt_29 : decode cX6_shortenAt 29 = .ok (.iconst 1, 1) := by decide +kernel
theorem dX6_shortenAt_30 : decode cX6_shortenAt 30 = .ok (.ireturn, 1) := by decide +kernel
theorem dX6_shortenAt_31 : decode cX6_shortenAt 31 = .ok (.aload_n 0, 1) := by decide +kernel
theorem dX6_shortenAt_32 : decode cX6_shortenAt 32 = .ok (.iconst 5, 1) := by decide +kernel
theorem dX6_shortenAt_33 : decode cX6_shortenAt 33 = .ok (.iload_n 1, 1) := by decide +kernel
theorem dX6_shortenAt_34 : decode cX6_shortenAt 34 = .ok (.invokevirtual 48, 3) := by decide +kernel
theorem dX6_shortenAt_37 : decode cX6_shortenAt 37 = .ok (.ifCond .eq 12, 3) := by decide +kernel
theorem dX6_shortenAt_40 : decode cX6_shortenAt 40 = .ok (.aload_n 0, 1) := by decide +kernel
theorem dX6_shortenAt_41 : decode cX6_shortenAt 41 = .ok (.iload_n 1, 1) := by decide +kernel
theorem dX6_shortenAt_42 : decode cX6_shortenAt 42 = .ok (.bipush 8, 2) := by decide +kernel
theorem dX6_shortenAt_44 : decode cX6_shortenAt 44 = .ok (.invokevirtual 44, 3) := by decide +kernel
theorem dX6_shortenAt_47 : decode cX6_shortenAt 47 = .ok (.iconst 1, 1) := by decide +kernel
theorem dX6_shortenAt_48 : decode cX6_shortenAt 48 = .ok (.ireturn, 1) := by decide +kernel
theorem dX6_shortenAt_49 : decode cX6_shortenAt 49 = .ok (.iload_n 2, 1) := by decide +kernel
theorem dX6_shortenAt_50 : decode cX6_shortenAt 50 = .ok (.bipush 6, 2) := by decide +kernel
theorem dX6_shortenAt_52 : decode cX6_shortenAt 52 = .ok (.if_icmp .ne 27, 3) := by decide +kernel
theorem dX6_shortenAt_55 : decode cX6_shortenAt 55 = .ok (.iload_n 3, 1) := by decide +kernel
theorem dX6_shortenAt_56 : decode cX6_shortenAt 56 = .ok (.bipush 6, 2) := by decide +kernel
theorem dX6_shortenAt_58 : decode cX6_shortenAt 58 = .ok (.if_icmp .ne 21, 3) := by decide +kernel
theorem dX6_shortenAt_61 : decode cX6_shortenAt 61 = .ok (.aload_n 0, 1) := by decide +kernel
theorem dX6_shortenAt_62 : decode cX6_shortenAt 62 = .ok (.getfield 9, 3) := by decide +kernel
theorem dX6_shortenAt_65 : decode cX6_shortenAt 65 = .ok (.iload_n 1, 1) := by decide +kernel
theorem dX6_shortenAt_66 : decode cX6_shortenAt 66 = .ok (.iconst 2, 1) := by decide +kernel
theorem dX6_shortenAt_67 : decode cX6_shortenAt 67 = .ok (.iastore, 1) := by decide +kernel
theorem dX6_shortenAt_68 : decode cX6_shortenAt 68 = .ok (.aload_n 0, 1) := by decide +kernel
theorem dX6_shortenAt_69 : decode cX6_shortenAt 69 = .ok (.getfield 9, 3) := by decide +kernel
theorem dX6_shortenAt_72 : decode cX6_shortenAt 72 = .ok (.iload_n 1, 1) := by decide +kernel
theorem dX6_shortenAt_73 : decode cX6_shortenAt 73 = .ok (.iconst 1, 1) := by decide +kernel
theorem dX6_shortenAt_74 : decode cX6_shortenAt 74 = .ok (.iadd, 1) := by decide +kernel
theorem dX6_shortenAt_75 : decode cX6_shortenAt 75 = .ok (.iconst 4, 1) := by decide +kernel
theorem dX6_shortenAt_76 : decode cX6_shortenAt 76 = .ok (.iastore, 1) := by decide +kernel
theorem dX6_shortenAt_77 : decode cX6_shortenAt 77 = .ok (.iconst 1, 1) := by decide +kernel
theorem dX6_shortenAt_78 : decode cX6_shortenAt 78 = .ok (.ireturn, 1) := by decide +kernel
theorem dX6_shortenAt_79 : decode cX6_shortenAt 79 = .ok (.iload_n 2, 1) := by decide +kernel
theorem dX6_shortenAt_80 : decode cX6_shortenAt 80 = .ok (.iload_n 3, 1) := by decide +kernel
theorem dX6_shortenAt_81 : decode cX6_shortenAt 81 = .ok (.invokestatic 51, 3) := by decide +kernel
theorem dX6_shortenAt_84 : decode cX6_shortenAt 84 = .ok (.istore 4, 2) := by decide +kernel
theorem dX6_shortenAt_86 : decode cX6_shortenAt 86 = .ok (.iload 4, 2) := by decide +kernel
theorem dX6_shortenAt_88 : decode cX6_shortenAt 88 = .ok (.ifCond .ge 5, 3) := by decide +kernel
theorem dX6_shortenAt_91 : decode cX6_shortenAt 91 = .ok (.iconst 0, 1) := by decide +kernel
theorem dX6_shortenAt_92 : decode cX6_shortenAt 92 = .ok (.ireturn, 1) := by decide +kernel
theorem dX6_shortenAt_93 : decode cX6_shortenAt 93 = .ok (.aload_n 0, 1) := by decide +kernel
theorem dX6_shortenAt_94 : decode cX6_shortenAt 94 = .ok (.getfield 9, 3) := by decide +kernel
theorem dX6_shortenAt_97 : decode cX6_shortenAt 97 = .ok (.iload_n 1, 1) := by decide +kernel
theorem dX6_shortenAt_98 : decode cX6_shortenAt 98 = .ok (.iload 4, 2) := by decide +kernel
theorem dX6_shortenAt_100 : decode cX6_shortenAt 100 = .ok (.iastore, 1) := by decide +kernel
theorem dX6_shortenAt_101 : decode cX6_shortenAt 101 = .ok (.aload_n 0, 1) := by decide +kernel
theorem dX6_shortenAt_102 : decode cX6_shortenAt 102 = .ok (.iload_n 1, 1) := by decide +kernel
theorem dX6_shortenAt_103 : decode cX6_shortenAt 103 = .ok (.iconst 1, 1) := by decide +kernel
theorem dX6_shortenAt_104 : decode cX6_shortenAt 104 = .ok (.iadd, 1) := by decide +kernel
theorem dX6_shortenAt_105 : decode cX6_shortenAt 105 = .ok (.iconst 1, 1) := by decide +kernel
theorem dX6_shortenAt_106 : decode cX6_shortenAt 106 = .ok (.invokevirtual 44, 3) := by decide +kernel
theorem dX6_shortenAt_109 : decode cX6_shortenAt 109 = .ok (.iconst 1, 1) := by decide +kernel
theorem dX6_shortenAt_110 : decode cX6_shortenAt 110 = .ok (.ireturn, 1) := by decide +kernel
theorem dX6_goesOut_0 : decode cX6_goesOut 0 = .ok (.iload_n 0, 1) := by decide +kernel
theorem dX6_goesOut_1 : decode cX6_goesOut 1 = .ok (.iload_n 1, 1) := by decide +kernel
theorem dX6_goesOut_2 : decode cX6_goesOut 2 = .ok (.if_icmp .ne 21, 3) := by decide +kernel
theorem dX6_goesOut_5 : decode cX6_goesOut 5 = .ok (.iload_n 0, 1) := by decide +kernel
theorem dX6_goesOut_6 : decode cX6_goesOut 6 = .ok (.ifCond .eq 13, 3) := by decide +kernel
theorem dX6_goesOut_9 : decode cX6_goesOut 9 = .ok (.iload_n 0, 1) := by decide +kernel
theorem dX6_goesOut_10 : decode cX6_goesOut 10 = .ok (.iconst 3, 1) := by decide +kernel
theorem dX6_goesOut_11 : decode cX6_goesOut 11 = .ok (.if_icmp .eq 8, 3) := by decide +kernel
theorem dX6_goesOut_14 : decode cX6_goesOut 14 = .ok (.iload_n 0, 1) := by decide +kernel
theorem dX6_goesOut_15 : decode cX6_goesOut 15 = .ok (.iconst 4, 1) := by decide +kernel
theorem dX6_goesOut_16 : decode cX6_goesOut 16 = .ok (.if_icmp .ne 7, 3) := by decide +kernel
theorem dX6_goesOut_19 : decode cX6_goesOut 19 = .ok (.iconst 1, 1) := by decide +kernel
theorem dX6_goesOut_20 : decode cX6_goesOut 20 = .ok (.goto 4, 3) := by decide +kernel
theorem dX6_goesOut_23 : decode cX6_goesOut 23 = .ok (.iconst 0, 1) := by decide +kernel
theorem dX6_goesOut_24 : decode cX6_goesOut 24 = .ok (.istore_n 2, 1) := by decide +kernel
theorem dX6_goesOut_25 : decode cX6_goesOut 25 = .ok (.iload_n 2, 1) := by decide +kernel
theorem dX6_goesOut_26 : decode cX6_goesOut 26 = .ok (.ifCond .ne 25, 3) := by decide +kernel
theorem dX6_goesOut_29 : decode cX6_goesOut 29 = .ok (.iload_n 0, 1) := by decide +kernel
theorem dX6_goesOut_30 : decode cX6_goesOut 30 = .ok (.iconst 1, 1) := by decide +kernel
theorem dX6_goesOut_31 : decode cX6_goesOut 31 = .ok (.if_icmp .ne 9, 3) := by decide +kernel
theorem dX6_goesOut_34 : decode cX6_goesOut 34 = .ok (.iload_n 1, 1) := by decide +kernel
theorem dX6_goesOut_35 : decode cX6_goesOut 35 = .ok (.bipush 6, 2) := by decide +kernel
theorem dX6_goesOut_37 : decode cX6_goesOut 37 = .ok (.if_icmp .eq 14, 3) := by decide +kernel
theorem dX6_goesOut_40 : decode cX6_goesOut 40 = .ok (.iload_n 0, 1) := by decide +kernel
theorem dX6_goesOut_41 : decode cX6_goesOut 41 = .ok (.bipush 6, 2) := by decide +kernel
theorem dX6_goesOut_43 : decode cX6_goesOut 43 = .ok (.if_icmp .ne 12, 3) := by decide +kernel
theorem dX6_goesOut_46 : decode cX6_goesOut 46 = .ok (.iload_n 1, 1) := by decide +kernel
theorem dX6_goesOut_47 : decode cX6_goesOut 47 = .ok (.iconst 1, 1) := by decide +kernel
theorem dX6_goesOut_48 : decode cX6_goesOut 48 = .ok (.if_icmp .ne 7, 3) := by decide +kernel
theorem dX6_goesOut_51 : decode cX6_goesOut 51 = .ok (.iconst 1, 1) := by decide +kernel
theorem dX6_goesOut_52 : decode cX6_goesOut 52 = .ok (.goto 4, 3) := by decide +kernel
theorem dX6_goesOut_55 : decode cX6_goesOut 55 = .ok (.iconst 0, 1) := by decide +kernel
theorem dX6_goesOut_56 : decode cX6_goesOut 56 = .ok (.ireturn, 1) := by decide +kernel
theorem dX6_joinOf_0 : decode cX6_joinOf 0 = .ok (.iload_n 0, 1) := by decide +kernel
theorem dX6_joinOf_1 : decode cX6_joinOf 1 = .ok (.iconst 1, 1) := by decide +kernel
theorem dX6_joinOf_2 : decode cX6_joinOf 2 = .ok (.if_icmp .ne 10, 3) := by decide +kernel
theorem dX6_joinOf_5 : decode cX6_joinOf 5 = .ok (.iload_n 1, 1) := by decide +kernel
theorem dX6_joinOf_6 : decode cX6_joinOf 6 = .ok (.iconst 1, 1) := by decide +kernel
theorem dX6_joinOf_7 : decode cX6_joinOf 7 = .ok (.if_icmp .ne 5, 3) := by decide +kernel
theorem dX6_joinOf_10 : decode cX6_joinOf 10 = .ok (.iconst 2, 1) := by decide +kernel
theorem dX6_joinOf_11 : decode cX6_joinOf 11 = .ok (.ireturn, 1) := by decide +kernel
theorem dX6_joinOf_12 : decode cX6_joinOf 12 = .ok (.iload_n 0, 1) := by decide +kernel
theorem dX6_joinOf_13 : decode cX6_joinOf 13 = .ok (.iconst 2, 1) := by decide +kernel
theorem dX6_joinOf_14 : decode cX6_joinOf 14 = .ok (.if_icmp .ne 10, 3) := by decide +kernel
theorem dX6_joinOf_17 : decode cX6_joinOf 17 = .ok (.iload_n 1, 1) := by decide +kernel
theorem dX6_joinOf_18 : decode cX6_joinOf 18 = .ok (.iconst 2, 1) := by decide +kernel
theorem dX6_joinOf_19 : decode cX6_joinOf 19 = .ok (.if_icmp .ne 5, 3) := by decide +kernel
theorem dX6_joinOf_22 : decode cX6_joinOf 22 = .ok (.iconst 4, 1) := by decide +kernel
theorem dX6_joinOf_23 : decode cX6_joinOf 23 = .ok (.ireturn, 1) := by decide +kernel
theorem dX6_joinOf_24 : decode cX6_joinOf 24 = .ok (.iload_n 0, 1) := by decide +kernel
theorem dX6_joinOf_25 : decode cX6_joinOf 25 = .ok (.iconst 2, 1) := by decide +kernel
theorem dX6_joinOf_26 : decode cX6_joinOf 26 = .ok (.if_icmp .ne 9, 3) := by decide +kernel
theorem dX6_joinOf_29 : decode cX6_joinOf 29 = .ok (.iload_n 1, 1) := by decide +kernel
theorem dX6_joinOf_30 : decode cX6_joinOf 30 = .ok (.bipush 6, 2) := by decide +kernel
theorem dX6_joinOf_32 : decode cX6_joinOf 32 = .ok (.if_icmp .eq 14, 3) := by decide +kernel
theorem dX6_joinOf_35 : decode cX6_joinOf 35 = .ok (.iload_n 0, 1) := by decide +kernel
theorem dX6_joinOf_36 : decode cX6_joinOf 36 = .ok (.bipush 6, 2) := by decide +kernel
theorem dX6_joinOf_38 : decode cX6_joinOf 38 = .ok (.if_icmp .ne 12, 3) := by decide +kernel
theorem dX6_joinOf_41 : decode cX6_joinOf 41 = .ok (.iload_n 1, 1) := by decide +kernel
theorem dX6_joinOf_42 : decode cX6_joinOf 42 = .ok (.iconst 2, 1) := by decide +kernel
theorem dX6_joinOf_43 : decode cX6_joinOf 43 = .ok (.if_icmp .ne 7, 3) := by decide +kernel
theorem dX6_joinOf_46 : decode cX6_joinOf 46 = .ok (.iconst 1, 1) := by decide +kernel
theorem dX6_joinOf_47 : decode cX6_joinOf 47 = .ok (.goto 5, 3) := by decide +kernel
theorem dX6_joinOf_50 : decode cX6_joinOf 50 = .ok (.bipush (-2), 2) := by decide +kernel
theorem dX6_joinOf_52 : decode cX6_joinOf 52 = .ok (.ireturn, 1) := by decide +kernel
theorem dX6_standsEightTimes_0 : decode cX6_standsEightTimes 0 = .ok (.iconst 0, 1) := by decide +kernel
theorem dX6_standsEightTimes_1 : decode cX6_standsEightTimes 1 = .ok (.istore_n 3, 1) := by decide +kernel
theorem dX6_standsEightTimes_2 : decode cX6_standsEightTimes 2 = .ok (.iload_n 3, 1) := by decide +kernel
theorem dX6_standsEightTimes_3 : decode cX6_standsEightTimes 3 = .ok (.bipush 8, 2) := by decide +kernel
theorem dX6_standsEightTimes_5 : decode cX6_standsEightTimes 5 = .ok (.if_icmp .ge 22, 3) := by decide +kernel
theorem dX6_standsEightTimes_8 : decode cX6_standsEightTimes 8 = .ok (.aload_n 0, 1) := by decide +kernel
theorem dX6_standsEightTimes_9 : decode cX6_standsEightTimes 9 = .ok (.iload_n 2, 1) := by decide +kernel
theorem dX6_standsEightTimes_10 : decode cX6_standsEightTimes 10 = .ok (.iload_n 3, 1) := by decide +kernel
theorem dX6_standsEightTimes_11 : decode cX6_standsEightTimes 11 = .ok (.iadd, 1) := by decide +kernel
theorem dX6_standsEightTimes_12 : decode cX6_standsEightTimes 12 = .ok (.invokevirtual 37, 3) := by decide +kernel
theorem dX6_standsEightTimes_15 : decode cX6_standsEightTimes 15 = .ok (.iload_n 1, 1) := by decide +kernel
theorem dX6_standsEightTimes_16 : decode cX6_standsEightTimes 16 = .ok (.if_icmp .eq 5, 3) := by decide +kernel
theorem dX6_standsEightTimes_19 : decode cX6_standsEightTimes 19 = .ok (.iconst 0, 1) := by decide +kernel
theorem dX6_standsEightTimes_20 : decode cX6_standsEightTimes 20 = .ok (.ireturn, 1) := by decide +kernel
theorem dX6_standsEightTimes_21 : decode cX6_standsEightTimes 21 = .ok (.iinc 3 1, 3) := by decide +kernel
theorem dX6_standsEightTimes_24 : decode cX6_standsEightTimes 24 = .ok (.goto (-22), 3) := by decide +kernel
theorem dX6_standsEightTimes_27 : decode cX6_standsEightTimes 27 = .ok (.iconst 1, 1) := by decide +kernel
theorem dX6_standsEightTimes_28 : decode cX6_standsEightTimes 28 = .ok (.ireturn, 1) := by decide +kernel
theorem dX7_init_0 : decode cX7_init 0 = .ok (.aload_n 0, 1) := by decide +kernel
theorem dX7_init_1 : decode cX7_init 1 = .ok (.invokespecial 3, 3) := by decide +kernel
theorem dX7_init_4 : decode cX7_init 4 = .ok (.aload_n 0, 1) := by decide +kernel
theorem dX7_init_5 : decode cX7_init 5 = .ok (.bipush 16, 2) := by decide +kernel
theorem dX7_init_7 : decode cX7_init 7 = .ok (.newarray .long, 2) := by decide +kernel
theorem dX7_init_9 : decode cX7_init 9 = .ok (.putfield 11, 3) := by decide +kernel
theorem dX7_init_12 : decode cX7_init 12 = .ok (.aload_n 0, 1) := by decide +kernel
theorem dX7_init_13 : decode cX7_init 13 = .ok (.iconst 0, 1) := by decide +kernel
theorem dX7_init_14 : decode cX7_init 14 = .ok (.putfield 15, 3) := by decide +kernel
theorem dX7_init_17 : decode cX7_init 17 = .ok (.aload_n 0, 1) := by decide +kernel
theorem dX7_init_18 : decode cX7_init 18 = .ok (.invokevirtual 19, 3) := by decide +kernel
theorem dX7_init_21 : decode cX7_init 21 = .ok (.return_, 1) := by decide +kernel
theorem dX7_placeOf_0 : decode cX7_placeOf 0 = .ok (.iload_n 0, 1) := by decide +kernel
theorem dX7_placeOf_1 : decode cX7_placeOf 1 = .ok (.iconst 2, 1) := by decide +kernel
theorem dX7_placeOf_2 : decode cX7_placeOf 2 = .ok (.imul, 1) := by decide +kernel
theorem dX7_placeOf_3 : decode cX7_placeOf 3 = .ok (.iload_n 1, 1) := by decide +kernel
theorem dX7_placeOf_4 : decode cX7_placeOf 4 = .ok (.iadd, 1) := by decide +kernel
theorem dX7_placeOf_5 : decode cX7_placeOf 5 = .ok (.iconst 4, 1) := by decide +kernel
theorem dX7_placeOf_6 : decode cX7_placeOf 6 = .ok (.imul, 1) := by decide +kernel
theorem dX7_placeOf_7 : decode cX7_placeOf 7 = .ok (.ireturn, 1) := by decide +kernel
theorem dX7_makeUnit_0 : decode cX7_makeUnit 0 = .ok (.aload_n 0, 1) := by decide +kernel
theorem dX7_makeUnit_1 : decode cX7_makeUnit 1 = .ok (.invokevirtual 22, 3) := by decide +kernel
theorem dX7_makeUnit_4 : decode cX7_makeUnit 4 = .ok (.aload_n 0, 1) := by decide +kernel
theorem dX7_makeUnit_5 : decode cX7_makeUnit 5 = .ok (.getfield 11, 3) := by decide +kernel
theorem dX7_makeUnit_8 : decode cX7_makeUnit 8 = .ok (.iconst 0, 1) := by decide +kernel
theorem dX7_makeUnit_9 : decode cX7_makeUnit 9 = .ok (.iconst 0, 1) := by decide +kernel
theorem dX7_makeUnit_10 : decode cX7_makeUnit 10 = .ok (.invokestatic 25, 3) := by decide +kernel
theorem dX7_makeUnit_13 : decode cX7_makeUnit 13 = .ok (.lconst 1, 1) := by decide +kernel
theorem dX7_makeUnit_14 : decode cX7_makeUnit 14 = .ok (.lastore, 1) := by decide +kernel
theorem dX7_makeUnit_15 : decode cX7_makeUnit 15 = .ok (.aload_n 0, 1) := by decide +kernel
theorem dX7_makeUnit_16 : decode cX7_makeUnit 16 = .ok (.getfield 11, 3) := by decide +kernel
theorem dX7_makeUnit_19 : decode cX7_makeUnit 19 = .ok (.iconst 1, 1) := by decide +kernel
theorem dX7_makeUnit_20 : decode cX7_makeUnit 20 = .ok (.iconst 1, 1) := by decide +kernel
theorem dX7_makeUnit_21 : decode cX7_makeUnit 21 = .ok (.invokestatic 25, 3) := by decide +kernel
theorem dX7_makeUnit_24 : decode cX7_makeUnit 24 = .ok (.lconst 1, 1) := by decide +kernel
theorem dX7_makeUnit_25 : decode cX7_makeUnit 25 = .ok (.lastore, 1) := by decide +kernel
theorem dX7_makeUnit_26 : decode cX7_makeUnit 26 = .ok (.aload_n 0, 1) := by decide +kernel
theorem dX7_makeUnit_27 : decode cX7_makeUnit 27 = .ok (.iconst 0, 1) := by decide +kernel
theorem dX7_makeUnit_28 : decode cX7_makeUnit 28 = .ok (.putfield 15, 3) := by decide +kernel
theorem dX7_makeUnit_31 : decode cX7_makeUnit 31 = .ok (.return_, 1) := by decide +kernel
theorem dX7_makeCopy_0 : decode cX7_makeCopy 0 = .ok (.aload_n 1, 1) := by decide +kernel
theorem dX7_makeCopy_1 : decode cX7_makeCopy 1 = .ok (.getfield 11, 3) := by decide +kernel
theorem dX7_makeCopy_4 : decode cX7_makeCopy 4 = .ok (.iconst 0, 1) := by decide +kernel
theorem dX7_makeCopy_5 : decode cX7_makeCopy 5 = .ok (.aload_n 0, 1) := by decide +kernel
theorem dX7_makeCopy_6 : decode cX7_makeCopy 6 = .ok (.getfield 11, 3) := by decide +kernel
theorem dX7_makeCopy_9 : decode cX7_makeCopy 9 = .ok (.iconst 0, 1) := by decide +kernel
theorem dX7_makeCopy_10 : decode cX7_makeCopy 10 = .ok (.bipush 16, 2) := by decide +kernel
theorem dX7_makeCopy_12 : decode cX7_makeCopy 12 = .ok (.invokestatic 29, 3) := by decide +kernel
theorem dX7_makeCopy_15 : decode cX7_makeCopy 15 = .ok (.aload_n 0, 1) := by decide +kernel
theorem dX7_makeCopy_16 : decode cX7_makeCopy 16 = .ok (.aload_n 1, 1) := by decide +kernel
theorem dX7_makeCopy_17 : decode cX7_makeCopy 17 = .ok (.getfield 15, 3) := by decide +kernel
theorem dX7_makeCopy_20 : decode cX7_makeCopy 20 = .ok (.putfield 15, 3) := by decide +kernel
theorem dX7_makeCopy_23 : decode cX7_makeCopy 23 = .ok (.return_, 1) := by decide +kernel
theorem dX7_isSame_0 : decode cX7_isSame 0 = .ok (.aload_n 0, 1) := by decide +kernel
theorem dX7_isSame_1 : decode cX7_isSame 1 = .ok (.getfield 15, 3) := by decide +kernel
theorem dX7_isSame_4 : decode cX7_isSame 4 = .ok (.aload_n 1, 1) := by decide +kernel
theorem dX7_isSame_5 : decode cX7_isSame 5 = .ok (.getfield 15, 3) := by decide +kernel
theorem dX7_isSame_8 : decode cX7_isSame 8 = .ok (.if_icmp .eq 5, 3) := by decide +kernel
theorem dX7_isSame_11 : decode cX7_isSame 11 = .ok (.iconst 0, 1) := by decide +kernel
theorem dX7_isSame_12 : decode cX7_isSame 12 = .ok (.ireturn, 1) := by decide +kernel
theorem dX7_isSame_13 : decode cX7_isSame 13 = .ok (.iconst 0, 1) := by decide +kernel
theorem dX7_isSame_14 : decode cX7_isSame 14 = .ok (.istore_n 2, 1) := by decide +kernel
theorem dX7_isSame_15 : decode cX7_isSame 15 = .ok (.iload_n 2, 1) := by decide +kernel
theorem dX7_isSame_16 : decode cX7_isSame 16 = .ok (.bipush 16, 2) := by decide +kernel
theorem dX7_isSame_18 : decode cX7_isSame 18 = .ok (.if_icmp .ge 27, 3) := by decide +kernel
theorem dX7_isSame_21 : decode cX7_isSame 21 = .ok (.aload_n 0, 1) := by decide +kernel
theorem dX7_isSame_22 : decode cX7_isSame 22 = .ok (.getfield 11, 3) := by decide +kernel
theorem dX7_isSame_25 : decode cX7_isSame 25 = .ok (.iload_n 2, 1) := by decide +kernel
theorem dX7_isSame_26 : decode cX7_isSame 26 = .ok (.laload, 1) := by decide +kernel
theorem dX7_isSame_27 : decode cX7_isSame 27 = .ok (.aload_n 1, 1) := by decide +kernel
theorem dX7_isSame_28 : decode cX7_isSame 28 = .ok (.getfield 11, 3) := by decide +kernel
theorem dX7_isSame_31 : decode cX7_isSame 31 = .ok (.iload_n 2, 1) := by decide +kernel
theorem dX7_isSame_32 : decode cX7_isSame 32 = .ok (.laload, 1) := by decide +kernel
theorem dX7_isSame_33 : decode cX7_isSame 33 = .ok (.lcmp, 1) := by decide +kernel
theorem dX7_isSame_34 : decode cX7_isSame 34 = .ok (.ifCond .eq 5, 3) := by decide +kernel
theorem dX7_isSame_37 : decode cX7_isSame 37 = .ok (.iconst 0, 1) := by decide +kernel
theorem dX7_isSame_38 : decode cX7_isSame 38 = .ok (.ireturn, 1) := by decide +kernel
theorem dX7_isSame_39 : decode cX7_isSame 39 = .ok (.iinc 2 1, 3) := by decide +kernel
theorem dX7_isSame_42 : decode cX7_isSame 42 = .ok (.goto (-27), 3) := by decide +kernel
theorem dX7_isSame_45 : decode cX7_isSame 45 = .ok (.iconst 1, 1) := by decide +kernel
theorem dX7_isSame_46 : decode cX7_isSame 46 = .ok (.ireturn, 1) := by decide +kernel
theorem dX7_makeTurned_0 : decode cX7_makeTurned 0 = .ok (.iconst 0, 1) := by decide +kernel
theorem dX7_makeTurned_1 : decode cX7_makeTurned 1 = .ok (.istore_n 2, 1) := by decide +kernel
theorem dX7_makeTurned_2 : decode cX7_makeTurned 2 = .ok (.iload_n 2, 1) := by decide +kernel
theorem dX7_makeTurned_3 : decode cX7_makeTurned 3 = .ok (.iconst 2, 1) := by decide +kernel
theorem dX7_makeTurned_4 : decode cX7_makeTurned 4 = .ok (.if_icmp .ge 107, 3) := by decide +kernel
theorem dX7_makeTurned_7 : decode cX7_makeTurned 7 = .ok (.iconst 0, 1) := by decide +kernel
theorem dX7_makeTurned_8 : decode cX7_makeTurned 8 = .ok (.istore_n 3, 1) := by decide +kernel
theorem dX7_makeTurned_9 : decode cX7_makeTurned 9 = .ok (.iload_n 3, 1) := by decide +kernel
theorem dX7_makeTurned_10 : decode cX7_makeTurned 10 = .ok (.iconst 2, 1) := by decide +kernel
theorem dX7_makeTurned_11 : decode cX7_makeTurned 11 = .ok (.if_icmp .ge 94, 3) := by decide +kernel
theorem dX7_makeTurned_14 : decode cX7_makeTurned 14 = .ok (.iload_n 2, 1) := by decide +kernel
theorem dX7_makeTurned_15 : decode cX7_makeTurned 15 = .ok (.iload_n 3, 1) := by decide +kernel
theorem dX7_makeTurned_16 : decode cX7_makeTurned 16 = .ok (.invokestatic 25, 3) := by decide +kernel
theorem dX7_makeTurned_19 : decode cX7_makeTurned 19 = .ok (.istore 4, 2) := by decide +kernel
theorem dX7_makeTurned_21 : decode cX7_makeTurned 21 = .ok (.iload_n 3, 1) := by decide +kernel
theorem dX7_makeTurned_22 : decode cX7_makeTurned 22 = .ok (.iload_n 2, 1) := by decide +kernel
theorem dX7_makeTurned_23 : decode cX7_makeTurned 23 = .ok (.invokestatic 25, 3) := by decide +kernel
theorem dX7_makeTurned_26 : decode cX7_makeTurned 26 = .ok (.istore 5, 2) := by decide +kernel
theorem dX7_makeTurned_28 : decode cX7_makeTurned 28 = .ok (.aload_n 0, 1) := by decide +kernel
theorem dX7_makeTurned_29 : decode cX7_makeTurned 29 = .ok (.getfield 11, 3) := by decide +kernel
theorem dX7_makeTurned_32 : decode cX7_makeTurned 32 = .ok (.iload 4, 2) := by decide +kernel
theorem dX7_makeTurned_34 : decode cX7_makeTurned 34 = .ok (.aload_n 1, 1) := by decide +kernel
theorem dX7_makeTurned_35 : decode cX7_makeTurned 35 = .ok (.getfield 11, 3) := by decide +kernel
theorem dX7_makeTurned_38 : decode cX7_makeTurned 38 = .ok (.iload 5, 2) := by decide +kernel
theorem dX7_makeTurned_40 : decode cX7_makeTurned 40 = .ok (.laload, 1) := by decide +kernel
theorem dX7_makeTurned_41 : decode cX7_makeTurned 41 = .ok (.lastore, 1) := by decide +kernel
theorem dX7_makeTurned_42 : decode cX7_makeTurned 42 = .ok (.aload_n 0, 1) := by decide +kernel
theorem dX7_makeTurned_43 : decode cX7_makeTurned 43 = .ok (.getfield 11, 3) := by decide +kernel
theorem dX7_makeTurned_46 : decode cX7_makeTurned 46 = .ok (.iload 4, 2) := by decide +kernel
theorem dX7_makeTurned_48 : decode cX7_makeTurned 48 = .ok (.iconst 1, 1) := by decide +kernel
theorem dX7_makeTurned_49 : decode cX7_makeTurned 49 = .ok (.iadd, 1) := by decide +kernel
theorem dX7_makeTurned_50 : decode cX7_makeTurned 50 = .ok (.aload_n 1, 1) := by decide +kernel
theorem dX7_makeTurned_51 : decode cX7_makeTurned 51 = .ok (.getfield 11, 3) := by decide +kernel
theorem dX7_makeTurned_54 : decode cX7_makeTurned 54 = .ok (.iload 5, 2) := by decide +kernel
theorem dX7_makeTurned_56 : decode cX7_makeTurned 56 = .ok (.iconst 3, 1) := by decide +kernel
theorem dX7_makeTurned_57 : decode cX7_makeTurned 57 = .ok (.iadd, 1) := by decide +kernel
theorem dX7_makeTurned_58 : decode cX7_makeTurned 58 = .ok (.laload, 1) := by decide +kernel
theorem dX7_makeTurned_59 : decode cX7_makeTurned 59 = .ok (.lneg, 1) := by decide +kernel
theorem dX7_makeTurned_60 : decode cX7_makeTurned 60 = .ok (.lastore, 1) := by decide +kernel
theorem dX7_makeTurned_61 : decode cX7_makeTurned 61 = .ok (.aload_n 0, 1) := by decide +kernel
theorem dX7_makeTurned_62 : decode cX7_makeTurned 62 = .ok (.getfield 11, 3) := by decide +kernel
theorem dX7_makeTurned_65 : decode cX7_makeTurned 65 = .ok (.iload 4, 2) := by decide +kernel
theorem dX7_makeTurned_67 : decode cX7_makeTurned 67 = .ok (.iconst 2, 1) := by decide +kernel
theorem dX7_makeTurned_68 : decode cX7_makeTurned 68 = .ok (.iadd, 1) := by decide +kernel
theorem dX7_makeTurned_69 : decode cX7_makeTurned 69 = .ok (.aload_n 1, 1) := by decide +kernel
theorem dX7_makeTurned_70 : decode cX7_makeTurned 70 = .ok (.getfield 11, 3) := by decide +kernel
theorem dX7_makeTurned_73 : decode cX7_makeTurned 73 = .ok (.iload 5, 2) := by decide +kernel
theorem dX7_makeTurned_75 : decode cX7_makeTurned 75 = .ok (.iconst 2, 1) := by decide +kernel
theorem dX7_makeTurned_76 : decode cX7_makeTurned 76 = .ok (.iadd, 1) := by decide +kernel
theorem dX7_makeTurned_77 : decode cX7_makeTurned 77 = .ok (.laload, 1) := by decide +kernel
theorem dX7_makeTurned_78 : decode cX7_makeTurned 78 = .ok (.lneg, 1) := by decide +kernel
theorem dX7_makeTurned_79 : decode cX7_makeTurned 79 = .ok (.lastore, 1) := by decide +kernel
theorem dX7_makeTurned_80 : decode cX7_makeTurned 80 = .ok (.aload_n 0, 1) := by decide +kernel
theorem dX7_makeTurned_81 : decode cX7_makeTurned 81 = .ok (.getfield 11, 3) := by decide +kernel
theorem dX7_makeTurned_84 : decode cX7_makeTurned 84 = .ok (.iload 4, 2) := by decide +kernel
theorem dX7_makeTurned_86 : decode cX7_makeTurned 86 = .ok (.iconst 3, 1) := by decide +kernel
theorem dX7_makeTurned_87 : decode cX7_makeTurned 87 = .ok (.iadd, 1) := by decide +kernel
theorem dX7_makeTurned_88 : decode cX7_makeTurned 88 = .ok (.aload_n 1, 1) := by decide +kernel
theorem dX7_makeTurned_89 : decode cX7_makeTurned 89 = .ok (.getfield 11, 3) := by decide +kernel
theorem dX7_makeTurned_92 : decode cX7_makeTurned 92 = .ok (.iload 5, 2) := by decide +kernel
theorem dX7_makeTurned_94 : decode cX7_makeTurned 94 = .ok (.iconst 1, 1) := by decide +kernel
theorem dX7_makeTurned_95 : decode cX7_makeTurned 95 = .ok (.iadd, 1) := by decide +kernel
theorem dX7_makeTurned_96 : decode cX7_makeTurned 96 = .ok (.laload, 1) := by decide +kernel
theorem dX7_makeTurned_97 : decode cX7_makeTurned 97 = .ok (.lneg, 1) := by decide +kernel
theorem dX7_makeTurned_98 : decode cX7_makeTurned 98 = .ok (.lastore, 1) := by decide +kernel
theorem dX7_makeTurned_99 : decode cX7_makeTurned 99 = .ok (.iinc 3 1, 3) := by decide +kernel
theorem dX7_makeTurned_102 : decode cX7_makeTurned 102 = .ok (.goto (-93), 3) := by decide +kernel
theorem dX7_makeTurned_105 : decode cX7_makeTurned 105 = .ok (.iinc 2 1, 3) := by decide +kernel
theorem dX7_makeTurned_108 : decode cX7_makeTurned 108 = .ok (.goto (-106), 3) := by decide +kernel
theorem dX7_makeTurned_111 : decode cX7_makeTurned 111 = .ok (.aload_n 0, 1) := by decide +kernel
theorem dX7_makeTurned_112 : decode cX7_makeTurned 112 = .ok (.aload_n 1, 1) := by decide +kernel
theorem dX7_makeTurned_113 : decode cX7_makeTurned 113 = .ok (.getfield 15, 3) := by decide +kernel
theorem dX7_makeTurned_116 : decode cX7_makeTurned 116 = .ok (.putfield 15, 3) := by decide +kernel
theorem dX7_makeTurned_119 : decode cX7_makeTurned 119 = .ok (.return_, 1) := by decide +kernel
theorem dX7_makeProduct_0 : decode cX7_makeProduct 0 = .ok (.aload_n 0, 1) := by decide +kernel
theorem dX7_makeProduct_1 : decode cX7_makeProduct 1 = .ok (.invokevirtual 22, 3) := by decide +kernel
theorem dX7_makeProduct_4 : decode cX7_makeProduct 4 = .ok (.iconst 0, 1) := by decide +kernel
theorem dX7_makeProduct_5 : decode cX7_makeProduct 5 = .ok (.istore_n 3, 1) := by decide +kernel
theorem dX7_makeProduct_6 : decode cX7_makeProduct 6 = .ok (.iload_n 3, 1) := by decide +kernel
theorem dX7_makeProduct_7 : decode cX7_makeProduct 7 = .ok (.iconst 2, 1) := by decide +kernel
theorem dX7_makeProduct_8 : decode cX7_makeProduct 8 = .ok (.if_icmp .ge 82, 3) := by decide +kernel
theorem dX7_makeProduct_11 : decode cX7_makeProduct 11 = .ok (.iconst 0, 1) := by decide +kernel
theorem dX7_makeProduct_12 : decode cX7_makeProduct 12 = .ok (.istore 4, 2) := by decide +kernel
theorem dX7_makeProduct_14 : decode cX7_makeProduct 14 = .ok (.iload 4, 2) := by decide +kernel
theorem dX7_makeProduct_16 : decode cX7_makeProduct 16 = .ok (.iconst 2, 1) := by decide +kernel
theorem dX7_makeProduct_17 : decode cX7_makeProduct 17 = .ok (.if_icmp .ge 67, 3) := by decide +kernel
theorem dX7_makeProduct_20 : decode cX7_makeProduct 20 = .ok (.iload_n 3, 1) := by decide +kernel
theorem dX7_makeProduct_21 : decode cX7_makeProduct 21 = .ok (.iload 4, 2) := by decide +kernel
theorem dX7_makeProduct_23 : decode cX7_makeProduct 23 = .ok (.invokestatic 25, 3) := by decide +kernel
theorem dX7_makeProduct_26 : decode cX7_makeProduct 26 = .ok (.istore 5, 2) := by decide +kernel
theorem dX7_makeProduct_28 : decode cX7_makeProduct 28 = .ok (.aload_n 0, 1) := by decide +kernel
theorem dX7_makeProduct_29 : decode cX7_makeProduct 29 = .ok (.iload 5, 2) := by decide +kernel
theorem dX7_makeProduct_31 : decode cX7_makeProduct 31 = .ok (.aload_n 1, 1) := by decide +kernel
theorem dX7_makeProduct_32 : decode cX7_makeProduct 32 = .ok (.getfield 11, 3) := by decide +kernel
theorem dX7_makeProduct_35 : decode cX7_makeProduct 35 = .ok (.iload_n 3, 1) := by decide +kernel
theorem dX7_makeProduct_36 : decode cX7_makeProduct 36 = .ok (.iconst 0, 1) := by decide +kernel
theorem dX7_makeProduct_37 : decode cX7_makeProduct 37 = .ok (.invokestatic 25, 3) := by decide +kernel
theorem dX7_makeProduct_40 : decode cX7_makeProduct 40 = .ok (.aload_n 2, 1) := by decide +kernel
theorem dX7_makeProduct_41 : decode cX7_makeProduct 41 = .ok (.getfield 11, 3) := by decide +kernel
theorem dX7_makeProduct_44 : decode cX7_makeProduct 44 = .ok (.iconst 0, 1) := by decide +kernel
theorem dX7_makeProduct_45 : decode cX7_makeProduct 45 = .ok (.iload 4, 2) := by decide +kernel
theorem dX7_makeProduct_47 : decode cX7_makeProduct 47 = .ok (.invokestatic 25, 3) := by decide +kernel
theorem dX7_makeProduct_50 : decode cX7_makeProduct 50 = .ok (.invokevirtual 35, 3) := by decide +kernel
theorem dX7_makeProduct_53 : decode cX7_makeProduct 53 = .ok (.aload_n 0, 1) := by decide +kernel
theorem dX7_makeProduct_54 : decode cX7_makeProduct 54 = .ok (.iload 5, 2) := by decide +kernel
theorem dX7_makeProduct_56 : decode cX7_makeProduct 56 = .ok (.aload_n 1, 1) := by decide +kernel
theorem dX7_makeProduct_57 : decode cX7_makeProduct 57 = .ok (.getfield 11, 3) := by decide +kernel
theorem dX7_makeProduct_60 : decode cX7_makeProduct 60 = .ok (.iload_n 3, 1) := by decide +kernel
theorem dX7_makeProduct_61 : decode cX7_makeProduct 61 = .ok (.iconst 1, 1) := by decide +kernel
theorem dX7_makeProduct_62 : decode cX7_makeProduct 62 = .ok (.invokestatic 25, 3) := by decide +kernel
theorem dX7_makeProduct_65 : decode cX7_makeProduct 65 = .ok (.aload_n 2, 1) := by decide +kernel
theorem dX7_makeProduct_66 : decode cX7_makeProduct 66 = .ok (.getfield 11, 3) := by decide +kernel
theorem dX7_makeProduct_69 : decode cX7_makeProduct 69 = .ok (.iconst 1, 1) := by decide +kernel
theorem dX7_makeProduct_70 : decode cX7_makeProduct 70 = .ok (.iload 4, 2) := by decide +kernel
theorem dX7_makeProduct_72 : decode cX7_makeProduct 72 = .ok (.invokestatic 25, 3) := by decide +kernel
theorem dX7_makeProduct_75 : decode cX7_makeProduct 75 = .ok (.invokevirtual 35, 3) := by decide +kernel
theorem dX7_makeProduct_78 : decode cX7_makeProduct 78 = .ok (.iinc 4 1, 3) := by decide +kernel
theorem dX7_makeProduct_81 : decode cX7_makeProduct 81 = .ok (.goto (-67), 3) := by decide +kernel
theorem dX7_makeProduct_84 : decode cX7_makeProduct 84 = .ok (.iinc 3 1, 3) := by decide +kernel
theorem dX7_makeProduct_87 : decode cX7_makeProduct 87 = .ok (.goto (-81), 3) := by decide +kernel
theorem dX7_makeProduct_90 : decode cX7_makeProduct 90 = .ok (.aload_n 0, 1) := by decide +kernel
theorem dX7_makeProduct_91 : decode cX7_makeProduct 91 = .ok (.aload_n 1, 1) := by decide +kernel
theorem dX7_makeProduct_92 : decode cX7_makeProduct 92 = .ok (.getfield 15, 3) := by decide +kernel
theorem dX7_makeProduct_95 : decode cX7_makeProduct 95 = .ok (.aload_n 2, 1) := by decide +kernel
theorem dX7_makeProduct_96 : decode cX7_makeProduct 96 = .ok (.getfield 15, 3) := by decide +kernel
theorem dX7_makeProduct_99 : decode cX7_makeProduct 99 = .ok (.iadd, 1) := by decide +kernel
theorem dX7_makeProduct_100 : decode cX7_makeProduct 100 = .ok (.putfield 15, 3) := by decide +kernel
theorem dX7_makeProduct_103 : decode cX7_makeProduct 103 = .ok (.return_, 1) := by decide +kernel
theorem dX7_clearParts_0 : decode cX7_clearParts 0 = .ok (.iconst 0, 1) := by decide +kernel
theorem dX7_clearParts_1 : decode cX7_clearParts 1 = .ok (.istore_n 1, 1) := by decide +kernel
theorem dX7_clearParts_2 : decode cX7_clearParts 2 = .ok (.iload_n 1, 1) := by decide +kernel
theorem dX7_clearParts_3 : decode cX7_clearParts 3 = .ok (.bipush 16, 2) := by decide +kernel
theorem dX7_clearParts_5 : decode cX7_clearParts 5 = .ok (.if_icmp .ge 16, 3) := by decide +kernel
theorem dX7_clearParts_8 : decode cX7_clearParts 8 = .ok (.aload_n 0, 1) := by decide +kernel
theorem dX7_clearParts_9 : decode cX7_clearParts 9 = .ok (.getfield 11, 3) := by decide +kernel
theorem dX7_clearParts_12 : decode cX7_clearParts 12 = .ok (.iload_n 1, 1) := by decide +kernel
theorem dX7_clearParts_13 : decode cX7_clearParts 13 = .ok (.lconst 0, 1) := by decide +kernel
theorem dX7_clearParts_14 : decode cX7_clearParts 14 = .ok (.lastore, 1) := by decide +kernel
theorem dX7_clearParts_15 : decode cX7_clearParts 15 = .ok (.iinc 1 1, 3) := by decide +kernel
theorem dX7_clearParts_18 : decode cX7_clearParts 18 = .ok (.goto (-16), 3) := by decide +kernel
theorem dX7_clearParts_21 : decode cX7_clearParts 21 = .ok (.return_, 1) := by decide +kernel
theorem dX7_addProduct_0 : decode cX7_addProduct 0 = .ok (.aload_n 2, 1) := by decide +kernel
theorem dX7_addProduct_1 : decode cX7_addProduct 1 = .ok (.iload_n 3, 1) := by decide +kernel
theorem dX7_addProduct_2 : decode cX7_addProduct 2 = .ok (.laload, 1) := by decide +kernel
theorem dX7_addProduct_3 : decode cX7_addProduct 3 = .ok (.lstore 6, 2) := by decide +kernel
theorem dX7_addProduct_5 : decode cX7_addProduct 5 = .ok (.aload_n 2, 1) := by decide +kernel
theorem dX7_addProduct_6 : decode cX7_addProduct 6 = .ok (.iload_n 3, 1) := by decide +kernel
theorem dX7_addProduct_7 : decode cX7_addProduct 7 = .ok (.iconst 1, 1) := by decide +kernel
theorem dX7_addProduct_8 : decode cX7_addProduct 8 = .ok (.iadd, 1) := by decide +kernel
theorem dX7_addProduct_9 : decode cX7_addProduct 9 = .ok (.laload, 1) := by decide +kernel
theorem dX7_addProduct_10 : decode cX7_addProduct 10 = .ok (.lstore 8, 2) := by decide +kernel
theorem dX7_addProduct_12 : decode cX7_addProduct 12 = .ok (.aload_n 2, 1) := by decide +kernel
theorem dX7_addProduct_13 : decode cX7_addProduct 13 = .ok (.iload_n 3, 1) := by decide +kernel
theorem dX7_addProduct_14 : decode cX7_addProduct 14 = .ok (.iconst 2, 1) := by decide +kernel
theorem dX7_addProduct_15 : decode cX7_addProduct 15 = .ok (.iadd, 1) := by decide +kernel
theorem dX7_addProduct_16 : decode cX7_addProduct 16 = .ok (.laload, 1) := by decide +kernel
theorem dX7_addProduct_17 : decode cX7_addProduct 17 = .ok (.lstore 10, 2) := by decide +kernel
theorem dX7_addProduct_19 : decode cX7_addProduct 19 = .ok (.aload_n 2, 1) := by decide +kernel
theorem dX7_addProduct_20 : decode cX7_addProduct 20 = .ok (.iload_n 3, 1) := by decide +kernel
theorem dX7_addProduct_21 : decode cX7_addProduct 21 = .ok (.iconst 3, 1) := by decide +kernel
theorem dX7_addProduct_22 : decode cX7_addProduct 22 = .ok (.iadd, 1) := by decide +kernel
theorem dX7_addProduct_23 : decode cX7_addProduct 23 = .ok (.laload, 1) := by decide +kernel
theorem dX7_addProduct_24 : decode cX7_addProduct 24 = .ok (.lstore 12, 2) := by decide +kernel
theorem dX7_addProduct_26 : decode cX7_addProduct 26 = .ok (.aload 4, 2) := by decide +kernel
theorem dX7_addProduct_28 : decode cX7_addProduct 28 = .ok (.iload 5, 2) := by decide +kernel
theorem dX7_addProduct_30 : decode cX7_addProduct 30 = .ok (.laload, 1) := by decide +kernel
theorem dX7_addProduct_31 : decode cX7_addProduct 31 = .ok (.lstore 14, 2) := by decide +kernel
theorem dX7_addProduct_33 : decode cX7_addProduct 33 = .ok (.aload 4, 2) := by decide +kernel
theorem dX7_addProduct_35 : decode cX7_addProduct 35 = .ok (.iload 5, 2) := by decide +kernel
theorem dX7_addProduct_37 : decode cX7_addProduct 37 = .ok (.iconst 1, 1) := by decide +kernel
theorem dX7_addProduct_38 : decode cX7_addProduct 38 = .ok (.iadd, 1) := by decide +kernel
theorem dX7_addProduct_39 : decode cX7_addProduct 39 = .ok (.laload, 1) := by decide +kernel
theorem dX7_addProduct_40 : decode cX7_addProduct 40 = .ok (.lstore 16, 2) := by decide +kernel
theorem dX7_addProduct_42 : decode cX7_addProduct 42 = .ok (.aload 4, 2) := by decide +kernel
theorem dX7_addProduct_44 : decode cX7_addProduct 44 = .ok (.iload 5, 2) := by decide +kernel
theorem dX7_addProduct_46 : decode cX7_addProduct 46 = .ok (.iconst 2, 1) := by decide +kernel
theorem dX7_addProduct_47 : decode cX7_addProduct 47 = .ok (.iadd, 1) := by decide +kernel
theorem dX7_addProduct_48 : decode cX7_addProduct 48 = .ok (.laload, 1) := by decide +kernel
theorem dX7_addProduct_49 : decode cX7_addProduct 49 = .ok (.lstore 18, 2) := by decide +kernel
theorem dX7_addProduct_51 : decode cX7_addProduct 51 = .ok (.aload 4, 2) := by decide +kernel
theorem dX7_addProduct_53 : decode cX7_addProduct 53 = .ok (.iload 5, 2) := by decide +kernel
theorem dX7_addProduct_55 : decode cX7_addProduct 55 = .ok (.iconst 3, 1) := by decide +kernel
theorem dX7_addProduct_56 : decode cX7_addProduct 56 = .ok (.iadd, 1) := by decide +kernel
theorem dX7_addProduct_57 : decode cX7_addProduct 57 = .ok (.laload, 1) := by decide +kernel
theorem dX7_addProduct_58 : decode cX7_addProduct 58 = .ok (.lstore 20, 2) := by decide +kernel
theorem dX7_addProduct_60 : decode cX7_addProduct 60 = .ok (.aload_n 0, 1) := by decide +kernel
theorem dX7_addProduct_61 : decode cX7_addProduct 61 = .ok (.getfield 11, 3) := by decide +kernel
theorem dX7_addProduct_64 : decode cX7_addProduct 64 = .ok (.iload_n 1, 1) := by decide +kernel
theorem dX7_addProduct_65 : decode cX7_addProduct 65 = .ok (.dup2, 1) := by decide +kernel
theorem dX7_addProduct_66 : decode cX7_addProduct 66 = .ok (.laload, 1) := by decide +kernel
theorem dX7_addProduct_67 : decode cX7_addProduct 67 = .ok (.lload 6, 2) := by decide +kernel
theorem dX7_addProduct_69 : decode cX7_addProduct 69 = .ok (.lload 14, 2) := by decide +kernel
theorem dX7_addProduct_71 : decode cX7_addProduct 71 = .ok (.lmul, 1) := by decide +kernel
theorem dX7_addProduct_72 : decode cX7_addProduct 72 = .ok (.lload 8, 2) := by decide +kernel
theorem dX7_addProduct_74 : decode cX7_addProduct 74 = .ok (.lload 20, 2) := by decide +kernel
theorem dX7_addProduct_76 : decode cX7_addProduct 76 = .ok (.lmul, 1) := by decide +kernel
theorem dX7_addProduct_77 : decode cX7_addProduct 77 = .ok (.lsub, 1) := by decide +kernel
theorem dX7_addProduct_78 : decode cX7_addProduct 78 = .ok (.lload 10, 2) := by decide +kernel
theorem dX7_addProduct_80 : decode cX7_addProduct 80 = .ok (.lload 18, 2) := by decide +kernel
theorem dX7_addProduct_82 : decode cX7_addProduct 82 = .ok (.lmul, 1) := by decide +kernel
theorem dX7_addProduct_83 : decode cX7_addProduct 83 = .ok (.lsub, 1) := by decide +kernel
theorem dX7_addProduct_84 : decode cX7_addProduct 84 = .ok (.lload 12, 2) := by decide +kernel
theorem dX7_addProduct_86 : decode cX7_addProduct 86 = .ok (.lload 16, 2) := by decide +kernel
theorem dX7_addProduct_88 : decode cX7_addProduct 88 = .ok (.lmul, 1) := by decide +kernel
theorem dX7_addProduct_89 : decode cX7_addProduct 89 = .ok (.lsub, 1) := by decide +kernel
theorem dX7_addProduct_90 : decode cX7_addProduct 90 = .ok (.ladd, 1) := by decide +kernel
theorem dX7_addProduct_91 : decode cX7_addProduct 91 = .ok (.lastore, 1) := by decide +kernel
theorem dX7_addProduct_92 : decode cX7_addProduct 92 = .ok (.aload_n 0, 1) := by decide +kernel
theorem dX7_addProduct_93 : decode cX7_addProduct 93 = .ok (.getfield 11, 3) := by decide +kernel
theorem dX7_addProduct_96 : decode cX7_addProduct 96 = .ok (.iload_n 1, 1) := by decide +kernel
theorem dX7_addProduct_97 : decode cX7_addProduct 97 = .ok (.iconst 1, 1) := by decide +kernel
theorem dX7_addProduct_98 : decode cX7_addProduct 98 = .ok (.iadd, 1) := by decide +kernel
theorem dX7_addProduct_99 : decode cX7_addProduct 99 = .ok (.dup2, 1) := by decide +kernel
theorem dX7_addProduct_100 : decode cX7_addProduct 100 = .ok (.laload, 1) := by decide +kernel
theorem dX7_addProduct_101 : decode cX7_addProduct 101 = .ok (.lload 6, 2) := by decide +kernel
theorem dX7_addProduct_103 : decode cX7_addProduct 103 = .ok (.lload 16, 2) := by decide +kernel
theorem dX7_addProduct_105 : decode cX7_addProduct 105 = .ok (.lmul, 1) := by decide +kernel
theorem dX7_addProduct_106 : decode cX7_addProduct 106 = .ok (.lload 8, 2) := by decide +kernel
theorem dX7_addProduct_108 : decode cX7_addProduct 108 = .ok (.lload 14, 2) := by decide +kernel
theorem dX7_addProduct_110 : decode cX7_addProduct 110 = .ok (.lmul, 1) := by decide +kernel
theorem dX7_addProduct_111 : decode cX7_addProduct 111 = .ok (.ladd, 1) := by decide +kernel
theorem dX7_addProduct_112 : decode cX7_addProduct 112 = .ok (.lload 10, 2) := by decide +kernel
theorem dX7_addProduct_114 : decode cX7_addProduct 114 = .ok (.lload 20, 2) := by decide +kernel
theorem dX7_addProduct_116 : decode cX7_addProduct 116 = .ok (.lmul, 1) := by decide +kernel
theorem dX7_addProduct_117 : decode cX7_addProduct 117 = .ok (.lsub, 1) := by decide +kernel
theorem dX7_addProduct_118 : decode cX7_addProduct 118 = .ok (.lload 12, 2) := by decide +kernel
theorem dX7_addProduct_120 : decode cX7_addProduct 120 = .ok (.lload 18, 2) := by decide +kernel
theorem dX7_addProduct_122 : decode cX7_addProduct 122 = .ok (.lmul, 1) := by decide +kernel
theorem dX7_addProduct_123 : decode cX7_addProduct 123 = .ok (.lsub, 1) := by decide +kernel
theorem dX7_addProduct_124 : decode cX7_addProduct 124 = .ok (.ladd, 1) := by decide +kernel
theorem dX7_addProduct_125 : decode cX7_addProduct 125 = .ok (.lastore, 1) := by decide +kernel
theorem dX7_addProduct_126 : decode cX7_addProduct 126 = .ok (.aload_n 0, 1) := by decide +kernel
theorem dX7_addProduct_127 : decode cX7_addProduct 127 = .ok (.getfield 11, 3) := by decide +kernel
theorem dX7_addProduct_130 : decode cX7_addProduct 130 = .ok (.iload_n 1, 1) := by decide +kernel
theorem dX7_addProduct_131 : decode cX7_addProduct 131 = .ok (.iconst 2, 1) := by decide +kernel
theorem dX7_addProduct_132 : decode cX7_addProduct 132 = .ok (.iadd, 1) := by decide +kernel
theorem dX7_addProduct_133 : decode cX7_addProduct 133 = .ok (.dup2, 1) := by decide +kernel
theorem dX7_addProduct_134 : decode cX7_addProduct 134 = .ok (.laload, 1) := by decide +kernel
theorem dX7_addProduct_135 : decode cX7_addProduct 135 = .ok (.lload 6, 2) := by decide +kernel
theorem dX7_addProduct_137 : decode cX7_addProduct 137 = .ok (.lload 18, 2) := by decide +kernel
theorem dX7_addProduct_139 : decode cX7_addProduct 139 = .ok (.lmul, 1) := by decide +kernel
theorem dX7_addProduct_140 : decode cX7_addProduct 140 = .ok (.lload 8, 2) := by decide +kernel
theorem dX7_addProduct_142 : decode cX7_addProduct 142 = .ok (.lload 16, 2) := by decide +kernel
theorem dX7_addProduct_144 : decode cX7_addProduct 144 = .ok (.lmul, 1) := by decide +kernel
theorem dX7_addProduct_145 : decode cX7_addProduct 145 = .ok (.ladd, 1) := by decide +kernel
theorem dX7_addProduct_146 : decode cX7_addProduct 146 = .ok (.lload 10, 2) := by decide +kernel
theorem dX7_addProduct_148 : decode cX7_addProduct 148 = .ok (.lload 14, 2) := by decide +kernel
theorem dX7_addProduct_150 : decode cX7_addProduct 150 = .ok (.lmul, 1) := by decide +kernel
theorem dX7_addProduct_151 : decode cX7_addProduct 151 = .ok (.ladd, 1) := by decide +kernel
theorem dX7_addProduct_152 : decode cX7_addProduct 152 = .ok (.lload 12, 2) := by decide +kernel
theorem dX7_addProduct_154 : decode cX7_addProduct 154 = .ok (.lload 20, 2) := by decide +kernel
theorem dX7_addProduct_156 : decode cX7_addProduct 156 = .ok (.lmul, 1) := by decide +kernel
theorem dX7_addProduct_157 : decode cX7_addProduct 157 = .ok (.lsub, 1) := by decide +kernel
theorem dX7_addProduct_158 : decode cX7_addProduct 158 = .ok (.ladd, 1) := by decide +kernel
theorem dX7_addProduct_159 : decode cX7_addProduct 159 = .ok (.lastore, 1) := by decide +kernel
theorem dX7_addProduct_160 : decode cX7_addProduct 160 = .ok (.aload_n 0, 1) := by decide +kernel
theorem dX7_addProduct_161 : decode cX7_addProduct 161 = .ok (.getfield 11, 3) := by decide +kernel
theorem dX7_addProduct_164 : decode cX7_addProduct 164 = .ok (.iload_n 1, 1) := by decide +kernel
theorem dX7_addProduct_165 : decode cX7_addProduct 165 = .ok (.iconst 3, 1) := by decide +kernel
theorem dX7_addProduct_166 : decode cX7_addProduct 166 = .ok (.iadd, 1) := by decide +kernel
theorem dX7_addProduct_167 : decode cX7_addProduct 167 = .ok (.dup2, 1) := by decide +kernel
theorem dX7_addProduct_168 : decode cX7_addProduct 168 = .ok (.laload, 1) := by decide +kernel
theorem dX7_addProduct_169 : decode cX7_addProduct 169 = .ok (.lload 6, 2) := by decide +kernel
theorem dX7_addProduct_171 : decode cX7_addProduct 171 = .ok (.lload 20, 2) := by decide +kernel
theorem dX7_addProduct_173 : decode cX7_addProduct 173 = .ok (.lmul, 1) := by decide +kernel
theorem dX7_addProduct_174 : decode cX7_addProduct 174 = .ok (.lload 8, 2) := by decide +kernel
theorem dX7_addProduct_176 : decode cX7_addProduct 176 = .ok (.lload 18, 2) := by decide +kernel
theorem dX7_addProduct_178 : decode cX7_addProduct 178 = .ok (.lmul, 1) := by decide +kernel
theorem dX7_addProduct_179 : decode cX7_addProduct 179 = .ok (.ladd, 1) := by decide +kernel
theorem dX7_addProduct_180 : decode cX7_addProduct 180 = .ok (.lload 10, 2) := by decide +kernel
theorem dX7_addProduct_182 : decode cX7_addProduct 182 = .ok (.lload 16, 2) := by decide +kernel
theorem dX7_addProduct_184 : decode cX7_addProduct 184 = .ok (.lmul, 1) := by decide +kernel
theorem dX7_addProduct_185 : decode cX7_addProduct 185 = .ok (.ladd, 1) := by decide +kernel
theorem dX7_addProduct_186 : decode cX7_addProduct 186 = .ok (.lload 12, 2) := by decide +kernel
theorem dX7_addProduct_188 : decode cX7_addProduct 188 = .ok (.lload 14, 2) := by decide +kernel
theorem dX7_addProduct_190 : decode cX7_addProduct 190 = .ok (.lmul, 1) := by decide +kernel
theorem dX7_addProduct_191 : decode cX7_addProduct 191 = .ok (.ladd, 1) := by decide +kernel
theorem dX7_addProduct_192 : decode cX7_addProduct 192 = .ok (.ladd, 1) := by decide +kernel
theorem dX7_addProduct_193 : decode cX7_addProduct 193 = .ok (.lastore, 1) := by decide +kernel
theorem dX7_addProduct_194 : decode cX7_addProduct 194 = .ok (.return_, 1) := by decide +kernel
theorem dX7_applyRow_0 : decode cX7_applyRow 0 = .ok (.iload_n 3, 1) := by decide +kernel
theorem dX7_applyRow_1 : decode cX7_applyRow 1 = .ok (.aload_n 1, 1) := by decide +kernel
theorem dX7_applyRow_2 : decode cX7_applyRow 2 = .ok (.getfield 39, 3) := by decide +kernel
theorem dX7_applyRow_5 : decode cX7_applyRow 5 = .ok (.invokestatic 44, 3) := by decide +kernel
theorem dX7_applyRow_8 : decode cX7_applyRow 8 = .ok (.istore 4, 2) := by decide +kernel
theorem dX7_applyRow_10 : decode cX7_applyRow 10 = .ok (.iload_n 2, 1) := by decide +kernel
theorem dX7_applyRow_11 : decode cX7_applyRow 11 = .ok (.iconst 0, 1) := by decide +kernel
theorem dX7_applyRow_12 : decode cX7_applyRow 12 = .ok (.invokestatic 49, 3) := by decide +kernel
theorem dX7_applyRow_15 : decode cX7_applyRow 15 = .ok (.istore 5, 2) := by decide +kernel
theorem dX7_applyRow_17 : decode cX7_applyRow 17 = .ok (.iload 5, 2) := by decide +kernel
theorem dX7_applyRow_19 : decode cX7_applyRow 19 = .ok (.iload 4, 2) := by decide +kernel
theorem dX7_applyRow_21 : decode cX7_applyRow 21 = .ok (.if_icmp .ge 19, 3) := by decide +kernel
theorem dX7_applyRow_24 : decode cX7_applyRow 24 = .ok (.aload_n 0, 1) := by decide +kernel
theorem dX7_applyRow_25 : decode cX7_applyRow 25 = .ok (.aload_n 1, 1) := by decide +kernel
theorem dX7_applyRow_26 : decode cX7_applyRow 26 = .ok (.iload 5, 2) := by decide +kernel
theorem dX7_applyRow_28 : decode cX7_applyRow 28 = .ok (.invokevirtual 52, 3) := by decide +kernel
theorem dX7_applyRow_31 : decode cX7_applyRow 31 = .ok (.invokevirtual 56, 3) := by decide +kernel
theorem dX7_applyRow_34 : decode cX7_applyRow 34 = .ok (.iinc 5 1, 3) := by decide +kernel
theorem dX7_applyRow_37 : decode cX7_applyRow 37 = .ok (.goto (-20), 3) := by decide +kernel
theorem dX7_applyRow_40 : decode cX7_applyRow 40 = .ok (.return_, 1) := by decide +kernel
theorem dX7_applyBehind_0 : decode cX7_applyBehind 0 = .ok (.aload_n 0, 1) := by decide +kernel
theorem dX7_applyBehind_1 : decode cX7_applyBehind 1 = .ok (.iload_n 1, 1) := by decide +kernel
theorem dX7_applyBehind_2 : decode cX7_applyBehind 2 = .ok (.iconst 0, 1) := by decide +kernel
theorem dX7_applyBehind_3 : decode cX7_applyBehind 3 = .ok (.iconst 0, 1) := by decide +kernel
theorem dX7_applyBehind_4 : decode cX7_applyBehind 4 = .ok (.invokestatic 25, 3) := by decide +kernel
theorem dX7_applyBehind_7 : decode cX7_applyBehind 7 = .ok (.iconst 0, 1) := by decide +kernel
theorem dX7_applyBehind_8 : decode cX7_applyBehind 8 = .ok (.iconst 1, 1) := by decide +kernel
theorem dX7_applyBehind_9 : decode cX7_applyBehind 9 = .ok (.invokestatic 25, 3) := by decide +kernel
theorem dX7_applyBehind_12 : decode cX7_applyBehind 12 = .ok (.invokevirtual 60, 3) := by decide +kernel
theorem dX7_applyBehind_15 : decode cX7_applyBehind 15 = .ok (.aload_n 0, 1) := by decide +kernel
theorem dX7_applyBehind_16 : decode cX7_applyBehind 16 = .ok (.iload_n 1, 1) := by decide +kernel
theorem dX7_applyBehind_17 : decode cX7_applyBehind 17 = .ok (.iconst 1, 1) := by decide +kernel
theorem dX7_applyBehind_18 : decode cX7_applyBehind 18 = .ok (.iconst 0, 1) := by decide +kernel
theorem dX7_applyBehind_19 : decode cX7_applyBehind 19 = .ok (.invokestatic 25, 3) := by decide +kernel
theorem dX7_applyBehind_22 : decode cX7_applyBehind 22 = .ok (.iconst 1, 1) := by decide +kernel
theorem dX7_applyBehind_23 : decode cX7_applyBehind 23 = .ok (.iconst 1, 1) := by decide +kernel
theorem dX7_applyBehind_24 : decode cX7_applyBehind 24 = .ok (.invokestatic 25, 3) := by decide +kernel
theorem dX7_applyBehind_27 : decode cX7_applyBehind 27 = .ok (.invokevirtual 60, 3) := by decide +kernel
theorem dX7_applyBehind_30 : decode cX7_applyBehind 30 = .ok (.iload_n 1, 1) := by decide +kernel
theorem dX7_applyBehind_31 : decode cX7_applyBehind 31 = .ok (.ifCond .ne 17, 3) := by decide +kernel
theorem dX7_applyBehind_34 : decode cX7_applyBehind 34 = .ok (.aload_n 0, 1) := by decide +kernel
theorem dX7_applyBehind_35 : decode cX7_applyBehind 35 = .ok (.dup, 1) := by decide +kernel
theorem dX7_applyBehind_36 : decode cX7_applyBehind 36 = .ok (.getfield 15, 3) := by decide +kernel
theorem dX7_applyBehind_39 : decode cX7_applyBehind 39 = .ok (.iconst 1, 1) := by decide +kernel
theorem dX7_applyBehind_40 : decode cX7_applyBehind 40 = .ok (.iadd, 1) := by decide +kernel
theorem dX7_applyBehind_41 : decode cX7_applyBehind 41 = .ok (.putfield 15, 3) := by decide +kernel
theorem dX7_applyBehind_44 : decode cX7_applyBehind 44 = .ok (.aload_n 0, 1) := by decide +kernel
theorem dX7_applyBehind_45 : decode cX7_applyBehind 45 = .ok (.invokevirtual 64, 3) := by decide +kernel
theorem dX7_applyBehind_48 : decode cX7_applyBehind 48 = .ok (.return_, 1) := by decide +kernel
theorem dX7_applyAhead_0 : decode cX7_applyAhead 0 = .ok (.aload_n 0, 1) := by decide +kernel
theorem dX7_applyAhead_1 : decode cX7_applyAhead 1 = .ok (.iload_n 1, 1) := by decide +kernel
theorem dX7_applyAhead_2 : decode cX7_applyAhead 2 = .ok (.iconst 0, 1) := by decide +kernel
theorem dX7_applyAhead_3 : decode cX7_applyAhead 3 = .ok (.iconst 0, 1) := by decide +kernel
theorem dX7_applyAhead_4 : decode cX7_applyAhead 4 = .ok (.invokestatic 25, 3) := by decide +kernel
theorem dX7_applyAhead_7 : decode cX7_applyAhead 7 = .ok (.iconst 1, 1) := by decide +kernel
theorem dX7_applyAhead_8 : decode cX7_applyAhead 8 = .ok (.iconst 0, 1) := by decide +kernel
theorem dX7_applyAhead_9 : decode cX7_applyAhead 9 = .ok (.invokestatic 25, 3) := by decide +kernel
theorem dX7_applyAhead_12 : decode cX7_applyAhead 12 = .ok (.invokevirtual 60, 3) := by decide +kernel
theorem dX7_applyAhead_15 : decode cX7_applyAhead 15 = .ok (.aload_n 0, 1) := by decide +kernel
theorem dX7_applyAhead_16 : decode cX7_applyAhead 16 = .ok (.iload_n 1, 1) := by decide +kernel
theorem dX7_applyAhead_17 : decode cX7_applyAhead 17 = .ok (.iconst 0, 1) := by decide +kernel
theorem dX7_applyAhead_18 : decode cX7_applyAhead 18 = .ok (.iconst 1, 1) := by decide +kernel
theorem dX7_applyAhead_19 : decode cX7_applyAhead 19 = .ok (.invokestatic 25, 3) := by decide +kernel
theorem dX7_applyAhead_22 : decode cX7_applyAhead 22 = .ok (.iconst 1, 1) := by decide +kernel
theorem dX7_applyAhead_23 : decode cX7_applyAhead 23 = .ok (.iconst 1, 1) := by decide +kernel
theorem dX7_applyAhead_24 : decode cX7_applyAhead 24 = .ok (.invokestatic 25, 3) := by decide +kernel
theorem dX7_applyAhead_27 : decode cX7_applyAhead 27 = .ok (.invokevirtual 60, 3) := by decide +kernel
theorem dX7_applyAhead_30 : decode cX7_applyAhead 30 = .ok (.iload_n 1, 1) := by decide +kernel
theorem dX7_applyAhead_31 : decode cX7_applyAhead 31 = .ok (.ifCond .ne 17, 3) := by decide +kernel
theorem dX7_applyAhead_34 : decode cX7_applyAhead 34 = .ok (.aload_n 0, 1) := by decide +kernel
theorem dX7_applyAhead_35 : decode cX7_applyAhead 35 = .ok (.dup, 1) := by decide +kernel
theorem dX7_applyAhead_36 : decode cX7_applyAhead 36 = .ok (.getfield 15, 3) := by decide +kernel
theorem dX7_applyAhead_39 : decode cX7_applyAhead 39 = .ok (.iconst 1, 1) := by decide +kernel
theorem dX7_applyAhead_40 : decode cX7_applyAhead 40 = .ok (.iadd, 1) := by decide +kernel
theorem dX7_applyAhead_41 : decode cX7_applyAhead 41 = .ok (.putfield 15, 3) := by decide +kernel
theorem dX7_applyAhead_44 : decode cX7_applyAhead 44 = .ok (.aload_n 0, 1) := by decide +kernel
theorem dX7_applyAhead_45 : decode cX7_applyAhead 45 = .ok (.invokevirtual 64, 3) := by decide +kernel
theorem dX7_applyAhead_48 : decode cX7_applyAhead 48 = .ok (.return_, 1) := by decide +kernel
theorem dX7_applyToPair_0 : decode cX7_applyToPair 0 = .ok (.iload_n 1, 1) := by decide +kernel
theorem dX7_applyToPair_1 : decode cX7_applyToPair 1 = .ok (.tableswitch 113 0 6 #[43, 52, 61, 70, 79, 88, 103], 43) := by decide +kernel
theorem dX7_applyToPair_44 : decode cX7_applyToPair 44 = .ok (.aload_n 0, 1) := by decide +kernel
theorem dX7_applyToPair_45 : decode cX7_applyToPair 45 = .ok (.iload_n 2, 1) := by decide +kernel
theorem dX7_applyToPair_46 : decode cX7_applyToPair 46 = .ok (.iload_n 3, 1) := by decide +kernel
theorem dX7_applyToPair_47 : decode cX7_applyToPair 47 = .ok (.invokevirtual 67, 3) := by decide +kernel
theorem dX7_applyToPair_50 : decode cX7_applyToPair 50 = .ok (.goto 64, 3) := by decide +kernel
theorem dX7_applyToPair_53 : decode cX7_applyToPair 53 = .ok (.aload_n 0, 1) := by decide +kernel
theorem dX7_applyToPair_54 : decode cX7_applyToPair 54 = .ok (.iload_n 3, 1) := by decide +kernel
theorem dX7_applyToPair_55 : decode cX7_applyToPair 55 = .ok (.iconst 1, 1) := by decide +kernel
theorem dX7_applyToPair_56 : decode cX7_applyToPair 56 = .ok (.invokevirtual 71, 3) := by decide +kernel
theorem dX7_applyToPair_59 : decode cX7_applyToPair 59 = .ok (.goto 55, 3) := by decide +kernel
theorem dX7_applyToPair_62 : decode cX7_applyToPair 62 = .ok (.aload_n 0, 1) := by decide +kernel
theorem dX7_applyToPair_63 : decode cX7_applyToPair 63 = .ok (.iload_n 3, 1) := by decide +kernel
theorem dX7_applyToPair_64 : decode cX7_applyToPair 64 = .ok (.iconst 2, 1) := by decide +kernel
theorem dX7_applyToPair_65 : decode cX7_applyToPair 65 = .ok (.invokevirtual 71, 3) := by decide +kernel
theorem dX7_applyToPair_68 : decode cX7_applyToPair 68 = .ok (.goto 46, 3) := by decide +kernel
theorem dX7_applyToPair_71 : decode cX7_applyToPair 71 = .ok (.aload_n 0, 1) := by decide +kernel
theorem dX7_applyToPair_72 : decode cX7_applyToPair 72 = .ok (.iload_n 2, 1) := by decide +kernel
theorem dX7_applyToPair_73 : decode cX7_applyToPair 73 = .ok (.iload_n 3, 1) := by decide +kernel
theorem dX7_applyToPair_74 : decode cX7_applyToPair 74 = .ok (.invokevirtual 74, 3) := by decide +kernel
theorem dX7_applyToPair_77 : decode cX7_applyToPair 77 = .ok (.goto 37, 3) := by decide +kernel
theorem dX7_applyToPair_80 : decode cX7_applyToPair 80 = .ok (.aload_n 0, 1) := by decide +kernel
theorem dX7_applyToPair_81 : decode cX7_applyToPair 81 = .ok (.iload_n 3, 1) := by decide +kernel
theorem dX7_applyToPair_82 : decode cX7_applyToPair 82 = .ok (.iconst 4, 1) := by decide +kernel
theorem dX7_applyToPair_83 : decode cX7_applyToPair 83 = .ok (.invokevirtual 71, 3) := by decide +kernel
theorem dX7_applyToPair_86 : decode cX7_applyToPair 86 = .ok (.goto 28, 3) := by decide +kernel
theorem dX7_applyToPair_89 : decode cX7_applyToPair 89 = .ok (.aload_n 0, 1) := by decide +kernel
theorem dX7_applyToPair_90 : decode cX7_applyToPair 90 = .ok (.iload_n 2, 1) := by decide +kernel
theorem dX7_applyToPair_91 : decode cX7_applyToPair 91 = .ok (.iconst 1, 1) := by decide +kernel
theorem dX7_applyToPair_92 : decode cX7_applyToPair 92 = .ok (.invokevirtual 71, 3) := by decide +kernel
theorem dX7_applyToPair_95 : decode cX7_applyToPair 95 = .ok (.aload_n 0, 1) := by decide +kernel
theorem dX7_applyToPair_96 : decode cX7_applyToPair 96 = .ok (.iload_n 3, 1) := by decide +kernel
theorem dX7_applyToPair_97 : decode cX7_applyToPair 97 = .ok (.iconst 1, 1) := by decide +kernel
theorem dX7_applyToPair_98 : decode cX7_applyToPair 98 = .ok (.invokevirtual 71, 3) := by decide +kernel
theorem dX7_applyToPair_101 : decode cX7_applyToPair 101 = .ok (.goto 13, 3) := by decide +kernel
theorem dX7_applyToPair_104 : decode cX7_applyToPair 104 = .ok (.aload_n 0, 1) := by decide +kernel
theorem dX7_applyToPair_105 : decode cX7_applyToPair 105 = .ok (.iload_n 3, 1) := by decide +kernel
theorem dX7_applyToPair_106 : decode cX7_applyToPair 106 = .ok (.bipush 7, 2) := by decide +kernel
theorem dX7_applyToPair_108 : decode cX7_applyToPair 108 = .ok (.invokevirtual 71, 3) := by decide +kernel
theorem dX7_applyToPair_111 : decode cX7_applyToPair 111 = .ok (.goto 3, 3) := by decide +kernel
theorem dX7_applyToPair_114 : decode cX7_applyToPair 114 = .ok (.return_, 1) := by decide +kernel
theorem dX7_addAndSubtract_0 : decode cX7_addAndSubtract 0 = .ok (.iconst 0, 1) := by decide +kernel
theorem dX7_addAndSubtract_1 : decode cX7_addAndSubtract 1 = .ok (.istore_n 3, 1) := by decide +kernel
theorem dX7_addAndSubtract_2 : decode cX7_addAndSubtract 2 = .ok (.iload_n 3, 1) := by decide +kernel
theorem dX7_addAndSubtract_3 : decode cX7_addAndSubtract 3 = .ok (.iconst 4, 1) := by decide +kernel
theorem dX7_addAndSubtract_4 : decode cX7_addAndSubtract 4 = .ok (.if_icmp .ge 55, 3) := by decide +kernel
theorem dX7_addAndSubtract_7 : decode cX7_addAndSubtract 7 = .ok (.aload_n 0, 1) := by decide +kernel
theorem dX7_addAndSubtract_8 : decode cX7_addAndSubtract 8 = .ok (.getfield 11, 3) := by decide +kernel
theorem dX7_addAndSubtract_11 : decode cX7_addAndSubtract 11 = .ok (.iload_n 1, 1) := by decide +kernel
theorem dX7_addAndSubtract_12 : decode cX7_addAndSubtract 12 = .ok (.iload_n 3, 1) := by decide +kernel
theorem dX7_addAndSubtract_13 : decode cX7_addAndSubtract 13 = .ok (.iadd, 1) := by decide +kernel
theorem dX7_addAndSubtract_14 : decode cX7_addAndSubtract 14 = .ok (.laload, 1) := by decide +kernel
theorem dX7_addAndSubtract_15 : decode cX7_addAndSubtract 15 = .ok (.lstore 4, 2) := by decide +kernel
theorem dX7_addAndSubtract_17 : decode cX7_addAndSubtract 17 = .ok (.aload_n 0, 1) := by decide +kernel
theorem dX7_addAndSubtract_18 : decode cX7_addAndSubtract 18 = .ok (.getfield 11, 3) := by decide +kernel
theorem dX7_addAndSubtract_21 : decode cX7_addAndSubtract 21 = .ok (.iload_n 2, 1) := by decide +kernel
theorem dX7_addAndSubtract_22 : decode cX7_addAndSubtract 22 = .ok (.iload_n 3, 1) := by decide +kernel
theorem dX7_addAndSubtract_23 : decode cX7_addAndSubtract 23 = .ok (.iadd, 1) := by decide +kernel
theorem dX7_addAndSubtract_24 : decode cX7_addAndSubtract 24 = .ok (.laload, 1) := by decide +kernel
theorem dX7_addAndSubtract_25 : decode cX7_addAndSubtract 25 = .ok (.lstore 6, 2) := by decide +kernel
theorem dX7_addAndSubtract_27 : decode cX7_addAndSubtract 27 = .ok (.aload_n 0, 1) := by decide +kernel
theorem dX7_addAndSubtract_28 : decode cX7_addAndSubtract 28 = .ok (.getfield 11, 3) := by decide +kernel
theorem dX7_addAndSubtract_31 : decode cX7_addAndSubtract 31 = .ok (.iload_n 1, 1) := by decide +kernel
theorem dX7_addAndSubtract_32 : decode cX7_addAndSubtract 32 = .ok (.iload_n 3, 1) := by decide +kernel
theorem dX7_addAndSubtract_33 : decode cX7_addAndSubtract 33 = .ok (.iadd, 1) := by decide +kernel
theorem dX7_addAndSubtract_34 : decode cX7_addAndSubtract 34 = .ok (.lload 4, 2) := by decide +kernel
theorem dX7_addAndSubtract_36 : decode cX7_addAndSubtract 36 = .ok (.lload 6, 2) := by decide +kernel
theorem dX7_addAndSubtract_38 : decode cX7_addAndSubtract 38 = .ok (.ladd, 1) := by decide +kernel
theorem dX7_addAndSubtract_39 : decode cX7_addAndSubtract 39 = .ok (.lastore, 1) := by decide +kernel
theorem dX7_addAndSubtract_40 : decode cX7_addAndSubtract 40 = .ok (.aload_n 0, 1) := by decide +kernel
theorem dX7_addAndSubtract_41 : decode cX7_addAndSubtract 41 = .ok (.getfield 11, 3) := by decide +kernel
theorem dX7_addAndSubtract_44 : decode cX7_addAndSubtract 44 = .ok (.iload_n 2, 1) := by decide +kernel
theorem dX7_addAndSubtract_45 : decode cX7_addAndSubtract 45 = .ok (.iload_n 3, 1) := by decide +kernel
theorem dX7_addAndSubtract_46 : decode cX7_addAndSubtract 46 = .ok (.iadd, 1) := by decide +kernel
theorem dX7_addAndSubtract_47 : decode cX7_addAndSubtract 47 = .ok (.lload 4, 2) := by decide +kernel
theorem dX7_addAndSubtract_49 : decode cX7_addAndSubtract 49 = .ok (.lload 6, 2) := by decide +kernel
theorem dX7_addAndSubtract_51 : decode cX7_addAndSubtract 51 = .ok (.lsub, 1) := by decide +kernel
theorem dX7_addAndSubtract_52 : decode cX7_addAndSubtract 52 = .ok (.lastore, 1) := by decide +kernel
theorem dX7_addAndSubtract_53 : decode cX7_addAndSubtract 53 = .ok (.iinc 3 1, 3) := by decide +kernel
theorem dX7_addAndSubtract_56 : decode cX7_addAndSubtract 56 = .ok (.goto (-54), 3) := by decide +kernel
theorem dX7_addAndSubtract_59 : decode cX7_addAndSubtract 59 = .ok (.return_, 1) := by decide +kernel
theorem dX7_exchange_0 : decode cX7_exchange 0 = .ok (.iconst 0, 1) := by decide +kernel
theorem dX7_exchange_1 : decode cX7_exchange 1 = .ok (.istore_n 3, 1) := by decide +kernel
theorem dX7_exchange_2 : decode cX7_exchange 2 = .ok (.iload_n 3, 1) := by decide +kernel
theorem dX7_exchange_3 : decode cX7_exchange 3 = .ok (.iconst 4, 1) := by decide +kernel
theorem dX7_exchange_4 : decode cX7_exchange 4 = .ok (.if_icmp .ge 45, 3) := by decide +kernel
theorem dX7_exchange_7 : decode cX7_exchange 7 = .ok (.aload_n 0, 1) := by decide +kernel
theorem dX7_exchange_8 : decode cX7_exchange 8 = .ok (.getfield 11, 3) := by decide +kernel
theorem dX7_exchange_11 : decode cX7_exchange 11 = .ok (.iload_n 1, 1) := by decide +kernel
theorem dX7_exchange_12 : decode cX7_exchange 12 = .ok (.iload_n 3, 1) := by decide +kernel
theorem dX7_exchange_13 : decode cX7_exchange 13 = .ok (.iadd, 1) := by decide +kernel
theorem dX7_exchange_14 : decode cX7_exchange 14 = .ok (.laload, 1) := by decide +kernel
theorem dX7_exchange_15 : decode cX7_exchange 15 = .ok (.lstore 4, 2) := by decide +kernel
theorem dX7_exchange_17 : decode cX7_exchange 17 = .ok (.aload_n 0, 1) := by decide +kernel
theorem dX7_exchange_18 : decode cX7_exchange 18 = .ok (.getfield 11, 3) := by decide +kernel
theorem dX7_exchange_21 : decode cX7_exchange 21 = .ok (.iload_n 1, 1) := by decide +kernel
theorem dX7_exchange_22 : decode cX7_exchange 22 = .ok (.iload_n 3, 1) := by decide +kernel
theorem dX7_exchange_23 : decode cX7_exchange 23 = .ok (.iadd, 1) := by decide +kernel
theorem dX7_exchange_24 : decode cX7_exchange 24 = .ok (.aload_n 0, 1) := by decide +kernel
theorem dX7_exchange_25 : decode cX7_exchange 25 = .ok (.getfield 11, 3) := by decide +kernel
theorem dX7_exchange_28 : decode cX7_exchange 28 = .ok (.iload_n 2, 1) := by decide +kernel
theorem dX7_exchange_29 : decode cX7_exchange 29 = .ok (.iload_n 3, 1) := by decide +kernel
theorem dX7_exchange_30 : decode cX7_exchange 30 = .ok (.iadd, 1) := by decide +kernel
theorem dX7_exchange_31 : decode cX7_exchange 31 = .ok (.laload, 1) := by decide +kernel
theorem dX7_exchange_32 : decode cX7_exchange 32 = .ok (.lastore, 1) := by decide +kernel
theorem dX7_exchange_33 : decode cX7_exchange 33 = .ok (.aload_n 0, 1) := by decide +kernel
theorem dX7_exchange_34 : decode cX7_exchange 34 = .ok (.getfield 11, 3) := by decide +kernel
theorem dX7_exchange_37 : decode cX7_exchange 37 = .ok (.iload_n 2, 1) := by decide +kernel
theorem dX7_exchange_38 : decode cX7_exchange 38 = .ok (.iload_n 3, 1) := by decide +kernel
theorem dX7_exchange_39 : decode cX7_exchange 39 = .ok (.iadd, 1) := by decide +kernel
theorem dX7_exchange_40 : decode cX7_exchange 40 = .ok (.lload 4, 2) := by decide +kernel
theorem dX7_exchange_42 : decode cX7_exchange 42 = .ok (.lastore, 1) := by decide +kernel
theorem dX7_exchange_43 : decode cX7_exchange 43 = .ok (.iinc 3 1, 3) := by decide +kernel
theorem dX7_exchange_46 : decode cX7_exchange 46 = .ok (.goto (-44), 3) := by decide +kernel
theorem dX7_exchange_49 : decode cX7_exchange 49 = .ok (.return_, 1) := by decide +kernel
theorem dX7_rotate_0 : decode cX7_rotate 0 = .ok (.iconst 0, 1) := by decide +kernel
theorem dX7_rotate_1 : decode cX7_rotate 1 = .ok (.istore_n 3, 1) := by decide +kernel
theorem dX7_rotate_2 : decode cX7_rotate 2 = .ok (.iload_n 3, 1) := by decide +kernel
theorem dX7_rotate_3 : decode cX7_rotate 3 = .ok (.iload_n 2, 1) := by decide +kernel
theorem dX7_rotate_4 : decode cX7_rotate 4 = .ok (.if_icmp .ge 74, 3) := by decide +kernel
theorem dX7_rotate_7 : decode cX7_rotate 7 = .ok (.aload_n 0, 1) := by decide +kernel
theorem dX7_rotate_8 : decode cX7_rotate 8 = .ok (.getfield 11, 3) := by decide +kernel
theorem dX7_rotate_11 : decode cX7_rotate 11 = .ok (.iload_n 1, 1) := by decide +kernel
theorem dX7_rotate_12 : decode cX7_rotate 12 = .ok (.iconst 3, 1) := by decide +kernel
theorem dX7_rotate_13 : decode cX7_rotate 13 = .ok (.iadd, 1) := by decide +kernel
theorem dX7_rotate_14 : decode cX7_rotate 14 = .ok (.laload, 1) := by decide +kernel
theorem dX7_rotate_15 : decode cX7_rotate 15 = .ok (.lstore 4, 2) := by decide +kernel
theorem dX7_rotate_17 : decode cX7_rotate 17 = .ok (.aload_n 0, 1) := by decide +kernel
theorem dX7_rotate_18 : decode cX7_rotate 18 = .ok (.getfield 11, 3) := by decide +kernel
theorem dX7_rotate_21 : decode cX7_rotate 21 = .ok (.iload_n 1, 1) := by decide +kernel
theorem dX7_rotate_22 : decode cX7_rotate 22 = .ok (.iconst 3, 1) := by decide +kernel
theorem dX7_rotate_23 : decode cX7_rotate 23 = .ok (.iadd, 1) := by decide +kernel
theorem dX7_rotate_24 : decode cX7_rotate 24 = .ok (.aload_n 0, 1) := by decide +kernel
theorem dX7_rotate_25 : decode cX7_rotate 25 = .ok (.getfield 11, 3) := by decide +kernel
theorem dX7_rotate_28 : decode cX7_rotate 28 = .ok (.iload_n 1, 1) := by decide +kernel
theorem dX7_rotate_29 : decode cX7_rotate 29 = .ok (.iconst 2, 1) := by decide +kernel
theorem dX7_rotate_30 : decode cX7_rotate 30 = .ok (.iadd, 1) := by decide +kernel
theorem dX7_rotate_31 : decode cX7_rotate 31 = .ok (.laload, 1) := by decide +kernel
theorem dX7_rotate_32 : decode cX7_rotate 32 = .ok (.lastore, 1) := by decide +kernel
theorem dX7_rotate_33 : decode cX7_rotate 33 = .ok (.aload_n 0, 1) := by decide +kernel
theorem dX7_rotate_34 : decode cX7_rotate 34 = .ok (.getfield 11, 3) := by decide +kernel
theorem dX7_rotate_37 : decode cX7_rotate 37 = .ok (.iload_n 1, 1) := by decide +kernel
theorem dX7_rotate_38 : decode cX7_rotate 38 = .ok (.iconst 2, 1) := by decide +kernel
theorem dX7_rotate_39 : decode cX7_rotate 39 = .ok (.iadd, 1) := by decide +kernel
theorem dX7_rotate_40 : decode cX7_rotate 40 = .ok (.aload_n 0, 1) := by decide +kernel
theorem dX7_rotate_41 : decode cX7_rotate 41 = .ok (.getfield 11, 3) := by decide +kernel
theorem dX7_rotate_44 : decode cX7_rotate 44 = .ok (.iload_n 1, 1) := by decide +kernel
theorem dX7_rotate_45 : decode cX7_rotate 45 = .ok (.iconst 1, 1) := by decide +kernel
theorem dX7_rotate_46 : decode cX7_rotate 46 = .ok (.iadd, 1) := by decide +kernel
theorem dX7_rotate_47 : decode cX7_rotate 47 = .ok (.laload, 1) := by decide +kernel
theorem dX7_rotate_48 : decode cX7_rotate 48 = .ok (.lastore, 1) := by decide +kernel
theorem dX7_rotate_49 : decode cX7_rotate 49 = .ok (.aload_n 0, 1) := by decide +kernel
theorem dX7_rotate_50 : decode cX7_rotate 50 = .ok (.getfield 11, 3) := by decide +kernel
theorem dX7_rotate_53 : decode cX7_rotate 53 = .ok (.iload_n 1, 1) := by decide +kernel
theorem dX7_rotate_54 : decode cX7_rotate 54 = .ok (.iconst 1, 1) := by decide +kernel
theorem dX7_rotate_55 : decode cX7_rotate 55 = .ok (.iadd, 1) := by decide +kernel
theorem dX7_rotate_56 : decode cX7_rotate 56 = .ok (.aload_n 0, 1) := by decide +kernel
theorem dX7_rotate_57 : decode cX7_rotate 57 = .ok (.getfield 11, 3) := by decide +kernel
theorem dX7_rotate_60 : decode cX7_rotate 60 = .ok (.iload_n 1, 1) := by decide +kernel
theorem dX7_rotate_61 : decode cX7_rotate 61 = .ok (.laload, 1) := by decide +kernel
theorem dX7_rotate_62 : decode cX7_rotate 62 = .ok (.lastore, 1) := by decide +kernel
theorem dX7_rotate_63 : decode cX7_rotate 63 = .ok (.aload_n 0, 1) := by decide +kernel
theorem dX7_rotate_64 : decode cX7_rotate 64 = .ok (.getfield 11, 3) := by decide +kernel
theorem dX7_rotate_67 : decode cX7_rotate 67 = .ok (.iload_n 1, 1) := by decide +kernel
theorem dX7_rotate_68 : decode cX7_rotate 68 = .ok (.lload 4, 2) := by decide +kernel
theorem dX7_rotate_70 : decode cX7_rotate 70 = .ok (.lneg, 1) := by decide +kernel
theorem dX7_rotate_71 : decode cX7_rotate 71 = .ok (.lastore, 1) := by decide +kernel
theorem dX7_rotate_72 : decode cX7_rotate 72 = .ok (.iinc 3 1, 3) := by decide +kernel
theorem dX7_rotate_75 : decode cX7_rotate 75 = .ok (.goto (-73), 3) := by decide +kernel
theorem dX7_rotate_78 : decode cX7_rotate 78 = .ok (.return_, 1) := by decide +kernel
theorem dX7_lower_0 : decode cX7_lower 0 = .ok (.iconst 0, 1) := by decide +kernel
theorem dX7_lower_1 : decode cX7_lower 1 = .ok (.istore_n 1, 1) := by decide +kernel
theorem dX7_lower_2 : decode cX7_lower 2 = .ok (.iload_n 1, 1) := by decide +kernel
theorem dX7_lower_3 : decode cX7_lower 3 = .ok (.sipush 1000, 3) := by decide +kernel
theorem dX7_lower_6 : decode cX7_lower 6 = .ok (.if_icmp .ge 52, 3) := by decide +kernel
theorem dX7_lower_9 : decode cX7_lower 9 = .ok (.aload_n 0, 1) := by decide +kernel
theorem dX7_lower_10 : decode cX7_lower 10 = .ok (.getfield 15, 3) := by decide +kernel
theorem dX7_lower_13 : decode cX7_lower 13 = .ok (.ifCond .le 45, 3) := by decide +kernel
theorem dX7_lower_16 : decode cX7_lower 16 = .ok (.aload_n 0, 1) := by decide +kernel
theorem dX7_lower_17 : decode cX7_lower 17 = .ok (.invokevirtual 77, 3) := by decide +kernel
theorem dX7_lower_20 : decode cX7_lower 20 = .ok (.ifCond .eq 38, 3) := by decide +kernel
theorem dX7_lower_23 : decode cX7_lower 23 = .ok (.iconst 0, 1) := by decide +kernel
theorem dX7_lower_24 : decode cX7_lower 24 = .ok (.istore_n 2, 1) := by decide +kernel
theorem dX7_lower_25 : decode cX7_lower 25 = .ok (.iload_n 2, 1) := by decide +kernel
theorem dX7_lower_26 : decode cX7_lower 26 = .ok (.bipush 16, 2) := by decide +kernel
theorem dX7_lower_28 : decode cX7_lower 28 = .ok (.if_icmp .ge 14, 3) := by decide +kernel
theorem dX7_lower_31 : decode cX7_lower 31 = .ok (.aload_n 0, 1) := by decide +kernel
theorem dX7_lower_32 : decode cX7_lower 32 = .ok (.iload_n 2, 1) := by decide +kernel
theorem dX7_lower_33 : decode cX7_lower 33 = .ok (.invokevirtual 81, 3) := by decide +kernel
theorem dX7_lower_36 : decode cX7_lower 36 = .ok (.iinc 2 4, 3) := by decide +kernel
theorem dX7_lower_39 : decode cX7_lower 39 = .ok (.goto (-14), 3) := by decide +kernel
theorem dX7_lower_42 : decode cX7_lower 42 = .ok (.aload_n 0, 1) := by decide +kernel
theorem dX7_lower_43 : decode cX7_lower 43 = .ok (.dup, 1) := by decide +kernel
theorem dX7_lower_44 : decode cX7_lower 44 = .ok (.getfield 15, 3) := by decide +kernel
theorem dX7_lower_47 : decode cX7_lower 47 = .ok (.iconst 1, 1) := by decide +kernel
theorem dX7_lower_48 : decode cX7_lower 48 = .ok (.isub, 1) := by decide +kernel
theorem dX7_lower_49 : decode cX7_lower 49 = .ok (.putfield 15, 3) := by decide +kernel
theorem dX7_lower_52 : decode cX7_lower 52 = .ok (.iinc 1 1, 3) := by decide +kernel
theorem dX7_lower_55 : decode cX7_lower 55 = .ok (.goto (-53), 3) := by decide +kernel
theorem dX7_lower_58 : decode cX7_lower 58 = .ok (.return_, 1) := by decide +kernel
theorem dX7_isMultipleOfR_0 : decode cX7_isMultipleOfR 0 = .ok (.iconst 0, 1) := by decide +kernel
theorem dX7_isMultipleOfR_1 : decode cX7_isMultipleOfR 1 = .ok (.istore_n 1, 1) := by decide +kernel
theorem dX7_isMultipleOfR_2 : decode cX7_isMultipleOfR 2 = .ok (.iload_n 1, 1) := by decide +kernel
theorem dX7_isMultipleOfR_3 : decode cX7_isMultipleOfR 3 = .ok (.bipush 16, 2) := by decide +kernel
theorem dX7_isMultipleOfR_5 : decode cX7_isMultipleOfR 5 = .ok (.if_icmp .ge 67, 3) := by decide +kernel
theorem dX7_isMultipleOfR_8 : decode cX7_isMultipleOfR 8 = .ok (.aload_n 0, 1) := by decide +kernel
theorem dX7_isMultipleOfR_9 : decode cX7_isMultipleOfR 9 = .ok (.getfield 11, 3) := by decide +kernel
theorem dX7_isMultipleOfR_12 : decode cX7_isMultipleOfR 12 = .ok (.iload_n 1, 1) := by decide +kernel
theorem dX7_isMultipleOfR_13 : decode cX7_isMultipleOfR 13 = .ok (.laload, 1) := by decide +kernel
theorem dX7_isMultipleOfR_14 : decode cX7_isMultipleOfR 14 = .ok (.aload_n 0, 1) := by decide +kernel
theorem dX7_isMultipleOfR_15 : decode cX7_isMultipleOfR 15 = .ok (.getfield 11, 3) := by decide +kernel
theorem dX7_isMultipleOfR_18 : decode cX7_isMultipleOfR 18 = .ok (.iload_n 1, 1) := by decide +kernel
theorem dX7_isMultipleOfR_19 : decode cX7_isMultipleOfR 19 = .ok (.iconst 2, 1) := by decide +kernel
theorem dX7_isMultipleOfR_20 : decode cX7_isMultipleOfR 20 = .ok (.iadd, 1) := by decide +kernel
theorem dX7_isMultipleOfR_21 : decode cX7_isMultipleOfR 21 = .ok (.laload, 1) := by decide +kernel
theorem dX7_isMultipleOfR_22 : decode cX7_isMultipleOfR 22 = .ok (.ladd, 1) := by decide +kernel
theorem dX7_isMultipleOfR_23 : decode cX7_isMultipleOfR 23 = .ok (.lconst 1, 1) := by decide +kernel
theorem dX7_isMultipleOfR_24 : decode cX7_isMultipleOfR 24 = .ok (.land, 1) := by decide +kernel
theorem dX7_isMultipleOfR_25 : decode cX7_isMultipleOfR 25 = .ok (.lconst 0, 1) := by decide +kernel
theorem dX7_isMultipleOfR_26 : decode cX7_isMultipleOfR 26 = .ok (.lcmp, 1) := by decide +kernel
theorem dX7_isMultipleOfR_27 : decode cX7_isMultipleOfR 27 = .ok (.ifCond .ne 27, 3) := by decide +kernel
theorem dX7_isMultipleOfR_30 : decode cX7_isMultipleOfR 30 = .ok (.aload_n 0, 1) := by decide +kernel
theorem dX7_isMultipleOfR_31 : decode cX7_isMultipleOfR 31 = .ok (.getfield 11, 3) := by decide +kernel
theorem dX7_isMultipleOfR_34 : decode cX7_isMultipleOfR 34 = .ok (.iload_n 1, 1) := by decide +kernel
theorem dX7_isMultipleOfR_35 : decode cX7_isMultipleOfR 35 = .ok (.iconst 1, 1) := by decide +kernel
theorem dX7_isMultipleOfR_36 : decode cX7_isMultipleOfR 36 = .ok (.iadd, 1) := by decide +kernel
theorem dX7_isMultipleOfR_37 : decode cX7_isMultipleOfR 37 = .ok (.laload, 1) := by decide +kernel
theorem dX7_isMultipleOfR_38 : decode cX7_isMultipleOfR 38 = .ok (.aload_n 0, 1) := by decide +kernel
theorem dX7_isMultipleOfR_39 : decode cX7_isMultipleOfR 39 = .ok (.getfield 11, 3) := by decide +kernel
theorem dX7_isMultipleOfR_42 : decode cX7_isMultipleOfR 42 = .ok (.iload_n 1, 1) := by decide +kernel
theorem dX7_isMultipleOfR_43 : decode cX7_isMultipleOfR 43 = .ok (.iconst 3, 1) := by decide +kernel
theorem dX7_isMultipleOfR_44 : decode cX7_isMultipleOfR 44 = .ok (.iadd, 1) := by decide +kernel
theorem dX7_isMultipleOfR_45 : decode cX7_isMultipleOfR 45 = .ok (.laload, 1) := by decide +kernel
theorem dX7_isMultipleOfR_46 : decode cX7_isMultipleOfR 46 = .ok (.ladd, 1) := by decide +kernel
theorem dX7_isMultipleOfR_47 : decode cX7_isMultipleOfR 47 = .ok (.lconst 1, 1) := by decide +kernel
theorem dX7_isMultipleOfR_48 : decode cX7_isMultipleOfR 48 = .ok (.land, 1) := by decide +kernel
theorem dX7_isMultipleOfR_49 : decode cX7_isMultipleOfR 49 = .ok (.lconst 0, 1) := by decide +kernel
theorem dX7_isMultipleOfR_50 : decode cX7_isMultipleOfR 50 = .ok (.lcmp, 1) := by decide +kernel
theorem dX7_isMultipleOfR_51 : decode cX7_isMultipleOfR 51 = .ok (.ifCond .eq 7, 3) := by decide +kernel
theorem dX7_isMultipleOfR_54 : decode cX7_isMultipleOfR 54 = .ok (.iconst 1, 1) := by decide +kernel
theorem dX7_isMultipleOfR_55 : decode cX7_isMultipleOfR 55 = .ok (.goto 4, 3) := by decide +kernel
theorem dX7_isMultipleOfR_58 : decode cX7_isMultipleOfR 58 = .ok (.iconst 0, 1) := by decide +kernel
theorem dX7_isMultipleOfR_59 : decode cX7_isMultipleOfR 59 = .ok (.istore_n 2, 1) := by decide +kernel
theorem dX7_isMultipleOfR_60 : decode cX7_isMultipleOfR 60 = .ok (.iload_n 2, 1) := by decide +kernel
theorem dX7_isMultipleOfR_61 : decode cX7_isMultipleOfR 61 = .ok (.ifCond .eq 5, 3) := by decide +kernel
theorem dX7_isMultipleOfR_64 : decode cX7_isMultipleOfR 64 = .ok (.iconst 0, 1) := by decide +kernel
theorem dX7_isMultipleOfR_65 : decode cX7_isMultipleOfR 65 = .ok (.ireturn, 1) := by decide +kernel
theorem dX7_isMultipleOfR_66 : decode cX7_isMultipleOfR 66 = .ok (.iinc 1 4, 3) := by decide +kernel
theorem dX7_isMultipleOfR_69 : decode cX7_isMultipleOfR 69 = .ok (.goto (-67), 3) := by decide +kernel
theorem dX7_isMultipleOfR_72 : decode cX7_isMultipleOfR 72 = .ok (.iconst 1, 1) := by decide +kernel
theorem dX7_isMultipleOfR_73 : decode cX7_isMultipleOfR 73 = .ok (.ireturn, 1) := by decide +kernel
theorem dX7_divideByR_0 : decode cX7_divideByR 0 = .ok (.aload_n 0, 1) := by decide +kernel
theorem dX7_divideByR_1 : decode cX7_divideByR 1 = .ok (.getfield 11, 3) := by decide +kernel
theorem dX7_divideByR_4 : decode cX7_divideByR 4 = .ok (.iload_n 1, 1) := by decide +kernel
theorem dX7_divideByR_5 : decode cX7_divideByR 5 = .ok (.laload, 1) := by decide +kernel
theorem dX7_divideByR_6 : decode cX7_divideByR 6 = .ok (.lstore_n 2, 1) := by decide +kernel
theorem dX7_divideByR_7 : decode cX7_divideByR 7 = .ok (.aload_n 0, 1) := by decide +kernel
theorem dX7_divideByR_8 : decode cX7_divideByR 8 = .ok (.getfield 11, 3) := by decide +kernel
theorem dX7_divideByR_11 : decode cX7_divideByR 11 = .ok (.iload_n 1, 1) := by decide +kernel
theorem dX7_divideByR_12 : decode cX7_divideByR 12 = .ok (.iconst 1, 1) := by decide +kernel
theorem dX7_divideByR_13 : decode cX7_divideByR 13 = .ok (.iadd, 1) := by decide +kernel
theorem dX7_divideByR_14 : decode cX7_divideByR 14 = .ok (.laload, 1) := by decide +kernel
theorem dX7_divideByR_15 : decode cX7_divideByR 15 = .ok (.lstore 4, 2) := by decide +kernel
theorem dX7_divideByR_17 : decode cX7_divideByR 17 = .ok (.aload_n 0, 1) := by decide +kernel
theorem dX7_divideByR_18 : decode cX7_divideByR 18 = .ok (.getfield 11, 3) := by decide +kernel
theorem dX7_divideByR_21 : decode cX7_divideByR 21 = .ok (.iload_n 1, 1) := by decide +kernel
theorem dX7_divideByR_22 : decode cX7_divideByR 22 = .ok (.iconst 2, 1) := by decide +kernel
theorem dX7_divideByR_23 : decode cX7_divideByR 23 = .ok (.iadd, 1) := by decide +kernel
theorem dX7_divideByR_24 : decode cX7_divideByR 24 = .ok (.laload, 1) := by decide +kernel
theorem dX7_divideByR_25 : decode cX7_divideByR 25 = .ok (.lstore 6, 2) := by decide +kernel
theorem dX7_divideByR_27 : decode cX7_divideByR 27 = .ok (.aload_n 0, 1) := by decide +kernel
theorem dX7_divideByR_28 : decode cX7_divideByR 28 = .ok (.getfield 11, 3) := by decide +kernel
theorem dX7_divideByR_31 : decode cX7_divideByR 31 = .ok (.iload_n 1, 1) := by decide +kernel

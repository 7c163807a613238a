theorem dX0_init_0 : decode cX0_init 0 = .ok (.aload_n 0, 1) := by decide +kernel
theorem dX0_init_1 : decode cX0_init 1 = .ok (.invokespecial 3, 3) := by decide +kernel
theorem dX0_init_4 : decode cX0_init 4 = .ok (.aload_n 0, 1) := by decide +kernel
theorem dX0_init_5 : decode cX0_init 5 = .ok (.iconst 4, 1) := by decide +kernel
theorem dX0_init_6 : decode cX0_init 6 = .ok (.anewarray 9, 3) := by decide +kernel
theorem dX0_init_9 : decode cX0_init 9 = .ok (.putfield 11, 3) := by decide +kernel
theorem dX0_init_12 : decode cX0_init 12 = .ok (.aload_n 0, 1) := by decide +kernel
theorem dX0_init_13 : decode cX0_init 13 = .ok (.iconst 3, 1) := by decide +kernel
theorem dX0_init_14 : decode cX0_init 14 = .ok (.anewarray 17, 3) := by decide +kernel
theorem dX0_init_17 : decode cX0_init 17 = .ok (.putfield 19, 3) := by decide +kernel
theorem dX0_init_20 : decode cX0_init 20 = .ok (.aload_n 0, 1) := by decide +kernel
theorem dX0_init_21 : decode cX0_init 21 = .ok (.bipush 7, 2) := by decide +kernel
theorem dX0_init_23 : decode cX0_init 23 = .ok (.newarray .int, 2) := by decide +kernel
theorem dX0_init_25 : decode cX0_init 25 = .ok (.putfield 23, 3) := by decide +kernel
theorem dX0_init_28 : decode cX0_init 28 = .ok (.iconst 0, 1) := by decide +kernel
theorem dX0_init_29 : decode cX0_init 29 = .ok (.istore_n 1, 1) := by decide +kernel
theorem dX0_init_30 : decode cX0_init 30 = .ok (.iload_n 1, 1) := by decide +kernel
theorem dX0_init_31 : decode cX0_init 31 = .ok (.iconst 4, 1) := by decide +kernel
theorem dX0_init_32 : decode cX0_init 32 = .ok (.if_icmp .ge 22, 3) := by decide +kernel
theorem dX0_init_35 : decode cX0_init 35 = .ok (.aload_n 0, 1) := by decide +kernel
theorem dX0_init_36 : decode cX0_init 36 = .ok (.getfield 11, 3) := by decide +kernel
theorem dX0_init_39 : decode cX0_init 39 = .ok (.iload_n 1, 1) := by decide +kernel
theorem dX0_init_40 : decode cX0_init 40 = .ok (.new 9, 3) := by decide +kernel
theorem dX0_init_43 : decode cX0_init 43 = .ok (.dup, 1) := by decide +kernel
theorem dX0_init_44 : decode cX0_init 44 = .ok (.invokespecial 27, 3) := by decide +kernel
theorem dX0_init_47 : decode cX0_init 47 = .ok (.aastore, 1) := by decide +kernel
theorem dX0_init_48 : decode cX0_init 48 = .ok (.iinc 1 1, 3) := by decide +kernel
theorem dX0_init_51 : decode cX0_init 51 = .ok (.goto (-21), 3) := by decide +kernel
theorem dX0_init_54 : decode cX0_init 54 = .ok (.iconst 0, 1) := by decide +kernel
theorem dX0_init_55 : decode cX0_init 55 = .ok (.istore_n 1, 1) := by decide +kernel
theorem dX0_init_56 : decode cX0_init 56 = .ok (.iload_n 1, 1) := by decide +kernel
theorem dX0_init_57 : decode cX0_init 57 = .ok (.iconst 3, 1) := by decide +kernel
theorem dX0_init_58 : decode cX0_init 58 = .ok (.if_icmp .ge 22, 3) := by decide +kernel
theorem dX0_init_61 : decode cX0_init 61 = .ok (.aload_n 0, 1) := by decide +kernel
theorem dX0_init_62 : decode cX0_init 62 = .ok (.getfield 19, 3) := by decide +kernel
theorem dX0_init_65 : decode cX0_init 65 = .ok (.iload_n 1, 1) := by decide +kernel
theorem dX0_init_66 : decode cX0_init 66 = .ok (.new 17, 3) := by decide +kernel
theorem dX0_init_69 : decode cX0_init 69 = .ok (.dup, 1) := by decide +kernel
theorem dX0_init_70 : decode cX0_init 70 = .ok (.invokespecial 28, 3) := by decide +kernel
theorem dX0_init_73 : decode cX0_init 73 = .ok (.aastore, 1) := by decide +kernel
theorem dX0_init_74 : decode cX0_init 74 = .ok (.iinc 1 1, 3) := by decide +kernel
theorem dX0_init_77 : decode cX0_init 77 = .ok (.goto (-21), 3) := by decide +kernel
theorem dX0_init_80 : decode cX0_init 80 = .ok (.iconst 0, 1) := by decide +kernel
theorem dX0_init_81 : decode cX0_init 81 = .ok (.istore_n 1, 1) := by decide +kernel
theorem dX0_init_82 : decode cX0_init 82 = .ok (.iload_n 1, 1) := by decide +kernel
theorem dX0_init_83 : decode cX0_init 83 = .ok (.bipush 7, 2) := by decide +kernel
theorem dX0_init_85 : decode cX0_init 85 = .ok (.if_icmp .ge 16, 3) := by decide +kernel
theorem dX0_init_88 : decode cX0_init 88 = .ok (.aload_n 0, 1) := by decide +kernel
theorem dX0_init_89 : decode cX0_init 89 = .ok (.getfield 23, 3) := by decide +kernel
theorem dX0_init_92 : decode cX0_init 92 = .ok (.iload_n 1, 1) := by decide +kernel
theorem dX0_init_93 : decode cX0_init 93 = .ok (.iconst 1, 1) := by decide +kernel
theorem dX0_init_94 : decode cX0_init 94 = .ok (.iastore, 1) := by decide +kernel
theorem dX0_init_95 : decode cX0_init 95 = .ok (.iinc 1 1, 3) := by decide +kernel
theorem dX0_init_98 : decode cX0_init 98 = .ok (.goto (-16), 3) := by decide +kernel
theorem dX0_init_101 : decode cX0_init 101 = .ok (.return_, 1) := by decide +kernel
theorem dX0_makeCopy_0 : decode cX0_makeCopy 0 = .ok (.iconst 0, 1) := by decide +kernel
theorem dX0_makeCopy_1 : decode cX0_makeCopy 1 = .ok (.istore_n 2, 1) := by decide +kernel
theorem dX0_makeCopy_2 : decode cX0_makeCopy 2 = .ok (.iload_n 2, 1) := by decide +kernel
theorem dX0_makeCopy_3 : decode cX0_makeCopy 3 = .ok (.iconst 4, 1) := by decide +kernel
theorem dX0_makeCopy_4 : decode cX0_makeCopy 4 = .ok (.if_icmp .ge 24, 3) := by decide +kernel
theorem dX0_makeCopy_7 : decode cX0_makeCopy 7 = .ok (.aload_n 0, 1) := by decide +kernel
theorem dX0_makeCopy_8 : decode cX0_makeCopy 8 = .ok (.getfield 11, 3) := by decide +kernel
theorem dX0_makeCopy_11 : decode cX0_makeCopy 11 = .ok (.iload_n 2, 1) := by decide +kernel
theorem dX0_makeCopy_12 : decode cX0_makeCopy 12 = .ok (.aaload, 1) := by decide +kernel
theorem dX0_makeCopy_13 : decode cX0_makeCopy 13 = .ok (.aload_n 1, 1) := by decide +kernel
theorem dX0_makeCopy_14 : decode cX0_makeCopy 14 = .ok (.getfield 11, 3) := by decide +kernel
theorem dX0_makeCopy_17 : decode cX0_makeCopy 17 = .ok (.iload_n 2, 1) := by decide +kernel
theorem dX0_makeCopy_18 : decode cX0_makeCopy 18 = .ok (.aaload, 1) := by decide +kernel
theorem dX0_makeCopy_19 : decode cX0_makeCopy 19 = .ok (.invokevirtual 29, 3) := by decide +kernel
theorem dX0_makeCopy_22 : decode cX0_makeCopy 22 = .ok (.iinc 2 1, 3) := by decide +kernel
theorem dX0_makeCopy_25 : decode cX0_makeCopy 25 = .ok (.goto (-23), 3) := by decide +kernel
theorem dX0_makeCopy_28 : decode cX0_makeCopy 28 = .ok (.iconst 0, 1) := by decide +kernel
theorem dX0_makeCopy_29 : decode cX0_makeCopy 29 = .ok (.istore_n 2, 1) := by decide +kernel
theorem dX0_makeCopy_30 : decode cX0_makeCopy 30 = .ok (.iload_n 2, 1) := by decide +kernel
theorem dX0_makeCopy_31 : decode cX0_makeCopy 31 = .ok (.iconst 3, 1) := by decide +kernel
theorem dX0_makeCopy_32 : decode cX0_makeCopy 32 = .ok (.if_icmp .ge 24, 3) := by decide +kernel
theorem dX0_makeCopy_35 : decode cX0_makeCopy 35 = .ok (.aload_n 0, 1) := by decide +kernel
theorem dX0_makeCopy_36 : decode cX0_makeCopy 36 = .ok (.getfield 19, 3) := by decide +kernel
theorem dX0_makeCopy_39 : decode cX0_makeCopy 39 = .ok (.iload_n 2, 1) := by decide +kernel
theorem dX0_makeCopy_40 : decode cX0_makeCopy 40 = .ok (.aaload, 1) := by decide +kernel
theorem dX0_makeCopy_41 : decode cX0_makeCopy 41 = .ok (.aload_n 1, 1) := by decide +kernel
theorem dX0_makeCopy_42 : decode cX0_makeCopy 42 = .ok (.getfield 19, 3) := by decide +kernel
theorem dX0_makeCopy_45 : decode cX0_makeCopy 45 = .ok (.iload_n 2, 1) := by decide +kernel
theorem dX0_makeCopy_46 : decode cX0_makeCopy 46 = .ok (.aaload, 1) := by decide +kernel
theorem dX0_makeCopy_47 : decode cX0_makeCopy 47 = .ok (.invokevirtual 33, 3) := by decide +kernel
theorem dX0_makeCopy_50 : decode cX0_makeCopy 50 = .ok (.iinc 2 1, 3) := by decide +kernel
theorem dX0_makeCopy_53 : decode cX0_makeCopy 53 = .ok (.goto (-23), 3) := by decide +kernel
theorem dX0_makeCopy_56 : decode cX0_makeCopy 56 = .ok (.aload_n 1, 1) := by decide +kernel
theorem dX0_makeCopy_57 : decode cX0_makeCopy 57 = .ok (.getfield 23, 3) := by decide +kernel
theorem dX0_makeCopy_60 : decode cX0_makeCopy 60 = .ok (.iconst 0, 1) := by decide +kernel
theorem dX0_makeCopy_61 : decode cX0_makeCopy 61 = .ok (.aload_n 0, 1) := by decide +kernel
theorem dX0_makeCopy_62 : decode cX0_makeCopy 62 = .ok (.getfield 23, 3) := by decide +kernel
theorem dX0_makeCopy_65 : decode cX0_makeCopy 65 = .ok (.iconst 0, 1) := by decide +kernel
theorem dX0_makeCopy_66 : decode cX0_makeCopy 66 = .ok (.bipush 7, 2) := by decide +kernel
theorem dX0_makeCopy_68 : decode cX0_makeCopy 68 = .ok (.invokestatic 36, 3) := by decide +kernel
theorem dX0_makeCopy_71 : decode cX0_makeCopy 71 = .ok (.return_, 1) := by decide +kernel
theorem dX0_countGates_0 : decode cX0_countGates 0 = .ok (.iconst 0, 1) := by decide +kernel
theorem dX0_countGates_1 : decode cX0_countGates 1 = .ok (.istore_n 1, 1) := by decide +kernel
theorem dX0_countGates_2 : decode cX0_countGates 2 = .ok (.aload_n 0, 1) := by decide +kernel
theorem dX0_countGates_3 : decode cX0_countGates 3 = .ok (.getfield 19, 3) := by decide +kernel
theorem dX0_countGates_6 : decode cX0_countGates 6 = .ok (.astore_n 2, 1) := by decide +kernel
theorem dX0_countGates_7 : decode cX0_countGates 7 = .ok (.aload_n 2, 1) := by decide +kernel
theorem dX0_countGates_8 : decode cX0_countGates 8 = .ok (.arraylength, 1) := by decide +kernel
theorem dX0_countGates_9 : decode cX0_countGates 9 = .ok (.istore_n 3, 1) := by decide +kernel
theorem dX0_countGates_10 : decode cX0_countGates 10 = .ok (.iconst 0, 1) := by decide +kernel
theorem dX0_countGates_11 : decode cX0_countGates 11 = .ok (.istore 4, 2) := by decide +kernel
theorem dX0_countGates_13 : decode cX0_countGates 13 = .ok (.iload 4, 2) := by decide +kernel
theorem dX0_countGates_15 : decode cX0_countGates 15 = .ok (.iload_n 3, 1) := by decide +kernel
theorem dX0_countGates_16 : decode cX0_countGates 16 = .ok (.if_icmp .ge 23, 3) := by decide +kernel
theorem dX0_countGates_19 : decode cX0_countGates 19 = .ok (.aload_n 2, 1) := by decide +kernel
theorem dX0_countGates_20 : decode cX0_countGates 20 = .ok (.iload 4, 2) := by decide +kernel
theorem dX0_countGates_22 : decode cX0_countGates 22 = .ok (.aaload, 1) := by decide +kernel
theorem dX0_countGates_23 : decode cX0_countGates 23 = .ok (.astore 5, 2) := by decide +kernel
theorem dX0_countGates_25 : decode cX0_countGates 25 = .ok (.iload_n 1, 1) := by decide +kernel
theorem dX0_countGates_26 : decode cX0_countGates 26 = .ok (.aload 5, 2) := by decide +kernel
theorem dX0_countGates_28 : decode cX0_countGates 28 = .ok (.getfield 42, 3) := by decide +kernel
theorem dX0_countGates_31 : decode cX0_countGates 31 = .ok (.iadd, 1) := by decide +kernel
theorem dX0_countGates_32 : decode cX0_countGates 32 = .ok (.istore_n 1, 1) := by decide +kernel
theorem dX0_countGates_33 : decode cX0_countGates 33 = .ok (.iinc 4 1, 3) := by decide +kernel
theorem dX0_countGates_36 : decode cX0_countGates 36 = .ok (.goto (-23), 3) := by decide +kernel
theorem dX0_countGates_39 : decode cX0_countGates 39 = .ok (.iload_n 1, 1) := by decide +kernel
theorem dX0_countGates_40 : decode cX0_countGates 40 = .ok (.ireturn, 1) := by decide +kernel
theorem dX0_countGate_0 : decode cX0_countGate 0 = .ok (.iconst 0, 1) := by decide +kernel
theorem dX0_countGate_1 : decode cX0_countGate 1 = .ok (.istore_n 2, 1) := by decide +kernel
theorem dX0_countGate_2 : decode cX0_countGate 2 = .ok (.aload_n 0, 1) := by decide +kernel
theorem dX0_countGate_3 : decode cX0_countGate 3 = .ok (.getfield 19, 3) := by decide +kernel
theorem dX0_countGate_6 : decode cX0_countGate 6 = .ok (.astore_n 3, 1) := by decide +kernel
theorem dX0_countGate_7 : decode cX0_countGate 7 = .ok (.aload_n 3, 1) := by decide +kernel
theorem dX0_countGate_8 : decode cX0_countGate 8 = .ok (.arraylength, 1) := by decide +kernel
theorem dX0_countGate_9 : decode cX0_countGate 9 = .ok (.istore 4, 2) := by decide +kernel
theorem dX0_countGate_11 : decode cX0_countGate 11 = .ok (.iconst 0, 1) := by decide +kernel
theorem dX0_countGate_12 : decode cX0_countGate 12 = .ok (.istore 5, 2) := by decide +kernel
theorem dX0_countGate_14 : decode cX0_countGate 14 = .ok (.iload 5, 2) := by decide +kernel
theorem dX0_countGate_16 : decode cX0_countGate 16 = .ok (.iload 4, 2) := by decide +kernel
theorem dX0_countGate_18 : decode cX0_countGate 18 = .ok (.if_icmp .ge 24, 3) := by decide +kernel
theorem dX0_countGate_21 : decode cX0_countGate 21 = .ok (.aload_n 3, 1) := by decide +kernel
theorem dX0_countGate_22 : decode cX0_countGate 22 = .ok (.iload 5, 2) := by decide +kernel
theorem dX0_countGate_24 : decode cX0_countGate 24 = .ok (.aaload, 1) := by decide +kernel
theorem dX0_countGate_25 : decode cX0_countGate 25 = .ok (.astore 6, 2) := by decide +kernel
theorem dX0_countGate_27 : decode cX0_countGate 27 = .ok (.iload_n 2, 1) := by decide +kernel
theorem dX0_countGate_28 : decode cX0_countGate 28 = .ok (.aload 6, 2) := by decide +kernel
theorem dX0_countGate_30 : decode cX0_countGate 30 = .ok (.iload_n 1, 1) := by decide +kernel
theorem dX0_countGate_31 : decode cX0_countGate 31 = .ok (.invokevirtual 46, 3) := by decide +kernel
theorem dX0_countGate_34 : decode cX0_countGate 34 = .ok (.iadd, 1) := by decide +kernel
theorem dX0_countGate_35 : decode cX0_countGate 35 = .ok (.istore_n 2, 1) := by decide +kernel
theorem dX0_countGate_36 : decode cX0_countGate 36 = .ok (.iinc 5 1, 3) := by decide +kernel
theorem dX0_countGate_39 : decode cX0_countGate 39 = .ok (.goto (-25), 3) := by decide +kernel
theorem dX0_countGate_42 : decode cX0_countGate 42 = .ok (.iload_n 2, 1) := by decide +kernel
theorem dX0_countGate_43 : decode cX0_countGate 43 = .ok (.ireturn, 1) := by decide +kernel
theorem dX0_sumPrices_0 : decode cX0_sumPrices 0 = .ok (.iconst 0, 1) := by decide +kernel
theorem dX0_sumPrices_1 : decode cX0_sumPrices 1 = .ok (.istore_n 1, 1) := by decide +kernel
theorem dX0_sumPrices_2 : decode cX0_sumPrices 2 = .ok (.aload_n 0, 1) := by decide +kernel
theorem dX0_sumPrices_3 : decode cX0_sumPrices 3 = .ok (.getfield 23, 3) := by decide +kernel
theorem dX0_sumPrices_6 : decode cX0_sumPrices 6 = .ok (.astore_n 2, 1) := by decide +kernel
theorem dX0_sumPrices_7 : decode cX0_sumPrices 7 = .ok (.aload_n 2, 1) := by decide +kernel
theorem dX0_sumPrices_8 : decode cX0_sumPrices 8 = .ok (.arraylength, 1) := by decide +kernel
theorem dX0_sumPrices_9 : decode cX0_sumPrices 9 = .ok (.istore_n 3, 1) := by decide +kernel
theorem dX0_sumPrices_10 : decode cX0_sumPrices 10 = .ok (.iconst 0, 1) := by decide +kernel
theorem dX0_sumPrices_11 : decode cX0_sumPrices 11 = .ok (.istore 4, 2) := by decide +kernel
theorem dX0_sumPrices_13 : decode cX0_sumPrices 13 = .ok (.iload 4, 2) := by decide +kernel
theorem dX0_sumPrices_15 : decode cX0_sumPrices 15 = .ok (.iload_n 3, 1) := by decide +kernel
theorem dX0_sumPrices_16 : decode cX0_sumPrices 16 = .ok (.if_icmp .ge 20, 3) := by decide +kernel
theorem dX0_sumPrices_19 : decode cX0_sumPrices 19 = .ok (.aload_n 2, 1) := by decide +kernel
theorem dX0_sumPrices_20 : decode cX0_sumPrices 20 = .ok (.iload 4, 2) := by decide +kernel
theorem dX0_sumPrices_22 : decode cX0_sumPrices 22 = .ok (.iaload, 1) := by decide +kernel
theorem dX0_sumPrices_23 : decode cX0_sumPrices 23 = .ok (.istore 5, 2) := by decide +kernel
theorem dX0_sumPrices_25 : decode cX0_sumPrices 25 = .ok (.iload_n 1, 1) := by decide +kernel
theorem dX0_sumPrices_26 : decode cX0_sumPrices 26 = .ok (.iload 5, 2) := by decide +kernel
theorem dX0_sumPrices_28 : decode cX0_sumPrices 28 = .ok (.iadd, 1) := by decide +kernel
theorem dX0_sumPrices_29 : decode cX0_sumPrices 29 = .ok (.istore_n 1, 1) := by decide +kernel
theorem dX0_sumPrices_30 : decode cX0_sumPrices 30 = .ok (.iinc 4 1, 3) := by decide +kernel
theorem dX0_sumPrices_33 : decode cX0_sumPrices 33 = .ok (.goto (-20), 3) := by decide +kernel
theorem dX0_sumPrices_36 : decode cX0_sumPrices 36 = .ok (.iload_n 1, 1) := by decide +kernel
theorem dX0_sumPrices_37 : decode cX0_sumPrices 37 = .ok (.ireturn, 1) := by decide +kernel
theorem dX1_init_0 : decode cX1_init 0 = .ok (.aload_n 0, 1) := by decide +kernel
theorem dX1_init_1 : decode cX1_init 1 = .ok (.invokespecial 3, 3) := by decide +kernel
theorem dX1_init_4 : decode cX1_init 4 = .ok (.aload_n 0, 1) := by decide +kernel
theorem dX1_init_5 : decode cX1_init 5 = .ok (.bipush 9, 2) := by decide +kernel
theorem dX1_init_7 : decode cX1_init 7 = .ok (.newarray .long, 2) := by decide +kernel
theorem dX1_init_9 : decode cX1_init 9 = .ok (.putfield 11, 3) := by decide +kernel
theorem dX1_init_12 : decode cX1_init 12 = .ok (.aload_n 0, 1) := by decide +kernel
theorem dX1_init_13 : decode cX1_init 13 = .ok (.bipush 9, 2) := by decide +kernel
theorem dX1_init_15 : decode cX1_init 15 = .ok (.newarray .long, 2) := by decide +kernel
theorem dX1_init_17 : decode cX1_init 17 = .ok (.putfield 15, 3) := by decide +kernel
theorem dX1_init_20 : decode cX1_init 20 = .ok (.aload_n 0, 1) := by decide +kernel
theorem dX1_init_21 : decode cX1_init 21 = .ok (.iconst 0, 1) := by decide +kernel
theorem dX1_init_22 : decode cX1_init 22 = .ok (.putfield 18, 3) := by decide +kernel
theorem dX1_init_25 : decode cX1_init 25 = .ok (.aload_n 0, 1) := by decide +kernel
theorem dX1_init_26 : decode cX1_init 26 = .ok (.new 22, 3) := by decide +kernel
theorem dX1_init_29 : decode cX1_init 29 = .ok (.dup, 1) := by decide +kernel
theorem dX1_init_30 : decode cX1_init 30 = .ok (.invokespecial 24, 3) := by decide +kernel
theorem dX1_init_33 : decode cX1_init 33 = .ok (.putfield 25, 3) := by decide +kernel
theorem dX1_init_36 : decode cX1_init 36 = .ok (.aload_n 0, 1) := by decide +kernel
theorem dX1_init_37 : decode cX1_init 37 = .ok (.new 22, 3) := by decide +kernel
theorem dX1_init_40 : decode cX1_init 40 = .ok (.dup, 1) := by decide +kernel
theorem dX1_init_41 : decode cX1_init 41 = .ok (.invokespecial 24, 3) := by decide +kernel
theorem dX1_init_44 : decode cX1_init 44 = .ok (.putfield 29, 3) := by decide +kernel
theorem dX1_init_47 : decode cX1_init 47 = .ok (.aload_n 0, 1) := by decide +kernel
theorem dX1_init_48 : decode cX1_init 48 = .ok (.new 22, 3) := by decide +kernel
theorem dX1_init_51 : decode cX1_init 51 = .ok (.dup, 1) := by decide +kernel
theorem dX1_init_52 : decode cX1_init 52 = .ok (.invokespecial 24, 3) := by decide +kernel
theorem dX1_init_55 : decode cX1_init 55 = .ok (.putfield 32, 3) := by decide +kernel
theorem dX1_init_58 : decode cX1_init 58 = .ok (.return_, 1) := by decide +kernel
theorem dX1_makeOf_0 : decode cX1_makeOf 0 = .ok (.aload_n 0, 1) := by decide +kernel
theorem dX1_makeOf_1 : decode cX1_makeOf 1 = .ok (.getfield 25, 3) := by decide +kernel
theorem dX1_makeOf_4 : decode cX1_makeOf 4 = .ok (.aload_n 1, 1) := by decide +kernel
theorem dX1_makeOf_5 : decode cX1_makeOf 5 = .ok (.invokevirtual 35, 3) := by decide +kernel
theorem dX1_makeOf_8 : decode cX1_makeOf 8 = .ok (.aload_n 0, 1) := by decide +kernel
theorem dX1_makeOf_9 : decode cX1_makeOf 9 = .ok (.getfield 29, 3) := by decide +kernel
theorem dX1_makeOf_12 : decode cX1_makeOf 12 = .ok (.aload_n 1, 1) := by decide +kernel
theorem dX1_makeOf_13 : decode cX1_makeOf 13 = .ok (.invokevirtual 39, 3) := by decide +kernel
theorem dX1_makeOf_16 : decode cX1_makeOf 16 = .ok (.aload_n 0, 1) := by decide +kernel
theorem dX1_makeOf_17 : decode cX1_makeOf 17 = .ok (.getfield 29, 3) := by decide +kernel
theorem dX1_makeOf_20 : decode cX1_makeOf 20 = .ok (.iconst 3, 1) := by decide +kernel
theorem dX1_makeOf_21 : decode cX1_makeOf 21 = .ok (.invokevirtual 42, 3) := by decide +kernel
theorem dX1_makeOf_24 : decode cX1_makeOf 24 = .ok (.aload_n 0, 1) := by decide +kernel
theorem dX1_makeOf_25 : decode cX1_makeOf 25 = .ok (.iconst 0, 1) := by decide +kernel
theorem dX1_makeOf_26 : decode cX1_makeOf 26 = .ok (.invokevirtual 46, 3) := by decide +kernel
theorem dX1_makeOf_29 : decode cX1_makeOf 29 = .ok (.aload_n 0, 1) := by decide +kernel
theorem dX1_makeOf_30 : decode cX1_makeOf 30 = .ok (.getfield 29, 3) := by decide +kernel
theorem dX1_makeOf_33 : decode cX1_makeOf 33 = .ok (.iconst 4, 1) := by decide +kernel
theorem dX1_makeOf_34 : decode cX1_makeOf 34 = .ok (.invokevirtual 42, 3) := by decide +kernel
theorem dX1_makeOf_37 : decode cX1_makeOf 37 = .ok (.aload_n 0, 1) := by decide +kernel
theorem dX1_makeOf_38 : decode cX1_makeOf 38 = .ok (.getfield 29, 3) := by decide +kernel
theorem dX1_makeOf_41 : decode cX1_makeOf 41 = .ok (.iconst 5, 1) := by decide +kernel
theorem dX1_makeOf_42 : decode cX1_makeOf 42 = .ok (.invokevirtual 42, 3) := by decide +kernel
theorem dX1_makeOf_45 : decode cX1_makeOf 45 = .ok (.aload_n 0, 1) := by decide +kernel
theorem dX1_makeOf_46 : decode cX1_makeOf 46 = .ok (.getfield 29, 3) := by decide +kernel
theorem dX1_makeOf_49 : decode cX1_makeOf 49 = .ok (.iconst 5, 1) := by decide +kernel
theorem dX1_makeOf_50 : decode cX1_makeOf 50 = .ok (.invokevirtual 42, 3) := by decide +kernel
theorem dX1_makeOf_53 : decode cX1_makeOf 53 = .ok (.aload_n 0, 1) := by decide +kernel
theorem dX1_makeOf_54 : decode cX1_makeOf 54 = .ok (.iconst 1, 1) := by decide +kernel
theorem dX1_makeOf_55 : decode cX1_makeOf 55 = .ok (.invokevirtual 46, 3) := by decide +kernel
theorem dX1_makeOf_58 : decode cX1_makeOf 58 = .ok (.aload_n 0, 1) := by decide +kernel
theorem dX1_makeOf_59 : decode cX1_makeOf 59 = .ok (.getfield 29, 3) := by decide +kernel
theorem dX1_makeOf_62 : decode cX1_makeOf 62 = .ok (.aload_n 1, 1) := by decide +kernel
theorem dX1_makeOf_63 : decode cX1_makeOf 63 = .ok (.invokevirtual 39, 3) := by decide +kernel
theorem dX1_makeOf_66 : decode cX1_makeOf 66 = .ok (.aload_n 0, 1) := by decide +kernel
theorem dX1_makeOf_67 : decode cX1_makeOf 67 = .ok (.getfield 29, 3) := by decide +kernel
theorem dX1_makeOf_70 : decode cX1_makeOf 70 = .ok (.iconst 4, 1) := by decide +kernel
theorem dX1_makeOf_71 : decode cX1_makeOf 71 = .ok (.invokevirtual 42, 3) := by decide +kernel
theorem dX1_makeOf_74 : decode cX1_makeOf 74 = .ok (.aload_n 0, 1) := by decide +kernel
theorem dX1_makeOf_75 : decode cX1_makeOf 75 = .ok (.iconst 2, 1) := by decide +kernel
theorem dX1_makeOf_76 : decode cX1_makeOf 76 = .ok (.invokevirtual 46, 3) := by decide +kernel
theorem dX1_makeOf_79 : decode cX1_makeOf 79 = .ok (.aload_n 0, 1) := by decide +kernel
theorem dX1_makeOf_80 : decode cX1_makeOf 80 = .ok (.iconst 2, 1) := by decide +kernel
theorem dX1_makeOf_81 : decode cX1_makeOf 81 = .ok (.aload_n 1, 1) := by decide +kernel
theorem dX1_makeOf_82 : decode cX1_makeOf 82 = .ok (.getfield 49, 3) := by decide +kernel
theorem dX1_makeOf_85 : decode cX1_makeOf 85 = .ok (.imul, 1) := by decide +kernel
theorem dX1_makeOf_86 : decode cX1_makeOf 86 = .ok (.iconst 2, 1) := by decide +kernel
theorem dX1_makeOf_87 : decode cX1_makeOf 87 = .ok (.iadd, 1) := by decide +kernel
theorem dX1_makeOf_88 : decode cX1_makeOf 88 = .ok (.putfield 18, 3) := by decide +kernel
theorem dX1_makeOf_91 : decode cX1_makeOf 91 = .ok (.aload_n 0, 1) := by decide +kernel
theorem dX1_makeOf_92 : decode cX1_makeOf 92 = .ok (.invokevirtual 52, 3) := by decide +kernel
theorem dX1_makeOf_95 : decode cX1_makeOf 95 = .ok (.return_, 1) := by decide +kernel
theorem dX1_fillColumn_0 : decode cX1_fillColumn 0 = .ok (.aload_n 0, 1) := by decide +kernel
theorem dX1_fillColumn_1 : decode cX1_fillColumn 1 = .ok (.getfield 32, 3) := by decide +kernel
theorem dX1_fillColumn_4 : decode cX1_fillColumn 4 = .ok (.aload_n 0, 1) := by decide +kernel
theorem dX1_fillColumn_5 : decode cX1_fillColumn 5 = .ok (.getfield 29, 3) := by decide +kernel
theorem dX1_fillColumn_8 : decode cX1_fillColumn 8 = .ok (.aload_n 0, 1) := by decide +kernel
theorem dX1_fillColumn_9 : decode cX1_fillColumn 9 = .ok (.getfield 25, 3) := by decide +kernel
theorem dX1_fillColumn_12 : decode cX1_fillColumn 12 = .ok (.invokevirtual 55, 3) := by decide +kernel
theorem dX1_fillColumn_15 : decode cX1_fillColumn 15 = .ok (.iconst 0, 1) := by decide +kernel
theorem dX1_fillColumn_16 : decode cX1_fillColumn 16 = .ok (.iconst 1, 1) := by decide +kernel
theorem dX1_fillColumn_17 : decode cX1_fillColumn 17 = .ok (.invokestatic 59, 3) := by decide +kernel
theorem dX1_fillColumn_20 : decode cX1_fillColumn 20 = .ok (.istore_n 2, 1) := by decide +kernel
theorem dX1_fillColumn_21 : decode cX1_fillColumn 21 = .ok (.aload_n 0, 1) := by decide +kernel
theorem dX1_fillColumn_22 : decode cX1_fillColumn 22 = .ok (.getfield 11, 3) := by decide +kernel
theorem dX1_fillColumn_25 : decode cX1_fillColumn 25 = .ok (.iload_n 1, 1) := by decide +kernel
theorem dX1_fillColumn_26 : decode cX1_fillColumn 26 = .ok (.ldc2_w 63, 3) := by decide +kernel
theorem dX1_fillColumn_29 : decode cX1_fillColumn 29 = .ok (.aload_n 0, 1) := by decide +kernel
theorem dX1_fillColumn_30 : decode cX1_fillColumn 30 = .ok (.getfield 32, 3) := by decide +kernel
theorem dX1_fillColumn_33 : decode cX1_fillColumn 33 = .ok (.getfield 65, 3) := by decide +kernel
theorem dX1_fillColumn_36 : decode cX1_fillColumn 36 = .ok (.iload_n 2, 1) := by decide +kernel
theorem dX1_fillColumn_37 : decode cX1_fillColumn 37 = .ok (.laload, 1) := by decide +kernel
theorem dX1_fillColumn_38 : decode cX1_fillColumn 38 = .ok (.lmul, 1) := by decide +kernel
theorem dX1_fillColumn_39 : decode cX1_fillColumn 39 = .ok (.lastore, 1) := by decide +kernel
theorem dX1_fillColumn_40 : decode cX1_fillColumn 40 = .ok (.aload_n 0, 1) := by decide +kernel
theorem dX1_fillColumn_41 : decode cX1_fillColumn 41 = .ok (.getfield 15, 3) := by decide +kernel
theorem dX1_fillColumn_44 : decode cX1_fillColumn 44 = .ok (.iload_n 1, 1) := by decide +kernel
theorem dX1_fillColumn_45 : decode cX1_fillColumn 45 = .ok (.aload_n 0, 1) := by decide +kernel
theorem dX1_fillColumn_46 : decode cX1_fillColumn 46 = .ok (.getfield 32, 3) := by decide +kernel
theorem dX1_fillColumn_49 : decode cX1_fillColumn 49 = .ok (.getfield 65, 3) := by decide +kernel
theorem dX1_fillColumn_52 : decode cX1_fillColumn 52 = .ok (.iload_n 2, 1) := by decide +kernel
theorem dX1_fillColumn_53 : decode cX1_fillColumn 53 = .ok (.iconst 1, 1) := by decide +kernel
theorem dX1_fillColumn_54 : decode cX1_fillColumn 54 = .ok (.iadd, 1) := by decide +kernel
theorem dX1_fillColumn_55 : decode cX1_fillColumn 55 = .ok (.laload, 1) := by decide +kernel
theorem dX1_fillColumn_56 : decode cX1_fillColumn 56 = .ok (.aload_n 0, 1) := by decide +kernel
theorem dX1_fillColumn_57 : decode cX1_fillColumn 57 = .ok (.getfield 32, 3) := by decide +kernel
theorem dX1_fillColumn_60 : decode cX1_fillColumn 60 = .ok (.getfield 65, 3) := by decide +kernel
theorem dX1_fillColumn_63 : decode cX1_fillColumn 63 = .ok (.iload_n 2, 1) := by decide +kernel
theorem dX1_fillColumn_64 : decode cX1_fillColumn 64 = .ok (.iconst 3, 1) := by decide +kernel
theorem dX1_fillColumn_65 : decode cX1_fillColumn 65 = .ok (.iadd, 1) := by decide +kernel
theorem dX1_fillColumn_66 : decode cX1_fillColumn 66 = .ok (.laload, 1) := by decide +kernel
theorem dX1_fillColumn_67 : decode cX1_fillColumn 67 = .ok (.lsub, 1) := by decide +kernel
theorem dX1_fillColumn_68 : decode cX1_fillColumn 68 = .ok (.lastore, 1) := by decide +kernel
theorem dX1_fillColumn_69 : decode cX1_fillColumn 69 = .ok (.aload_n 0, 1) := by decide +kernel
theorem dX1_fillColumn_70 : decode cX1_fillColumn 70 = .ok (.getfield 11, 3) := by decide +kernel
theorem dX1_fillColumn_73 : decode cX1_fillColumn 73 = .ok (.iconst 3, 1) := by decide +kernel
theorem dX1_fillColumn_74 : decode cX1_fillColumn 74 = .ok (.iload_n 1, 1) := by decide +kernel
theorem dX1_fillColumn_75 : decode cX1_fillColumn 75 = .ok (.iadd, 1) := by decide +kernel
theorem dX1_fillColumn_76 : decode cX1_fillColumn 76 = .ok (.ldc2_w 68, 3) := by decide +kernel
theorem dX1_fillColumn_79 : decode cX1_fillColumn 79 = .ok (.aload_n 0, 1) := by decide +kernel
theorem dX1_fillColumn_80 : decode cX1_fillColumn 80 = .ok (.getfield 32, 3) := by decide +kernel
theorem dX1_fillColumn_83 : decode cX1_fillColumn 83 = .ok (.getfield 65, 3) := by decide +kernel
theorem dX1_fillColumn_86 : decode cX1_fillColumn 86 = .ok (.iload_n 2, 1) := by decide +kernel
theorem dX1_fillColumn_87 : decode cX1_fillColumn 87 = .ok (.iconst 2, 1) := by decide +kernel
theorem dX1_fillColumn_88 : decode cX1_fillColumn 88 = .ok (.iadd, 1) := by decide +kernel
theorem dX1_fillColumn_89 : decode cX1_fillColumn 89 = .ok (.laload, 1) := by decide +kernel
theorem dX1_fillColumn_90 : decode cX1_fillColumn 90 = .ok (.lmul, 1) := by decide +kernel
theorem dX1_fillColumn_91 : decode cX1_fillColumn 91 = .ok (.lastore, 1) := by decide +kernel
theorem dX1_fillColumn_92 : decode cX1_fillColumn 92 = .ok (.aload_n 0, 1) := by decide +kernel
theorem dX1_fillColumn_93 : decode cX1_fillColumn 93 = .ok (.getfield 15, 3) := by decide +kernel
theorem dX1_fillColumn_96 : decode cX1_fillColumn 96 = .ok (.iconst 3, 1) := by decide +kernel
theorem dX1_fillColumn_97 : decode cX1_fillColumn 97 = .ok (.iload_n 1, 1) := by decide +kernel
theorem dX1_fillColumn_98 : decode cX1_fillColumn 98 = .ok (.iadd, 1) := by decide +kernel
theorem dX1_fillColumn_99 : decode cX1_fillColumn 99 = .ok (.aload_n 0, 1) := by decide +kernel
theorem dX1_fillColumn_100 : decode cX1_fillColumn 100 = .ok (.getfield 32, 3) := by decide +kernel
theorem dX1_fillColumn_103 : decode cX1_fillColumn 103 = .ok (.getfield 65, 3) := by decide +kernel
theorem dX1_fillColumn_106 : decode cX1_fillColumn 106 = .ok (.iload_n 2, 1) := by decide +kernel
theorem dX1_fillColumn_107 : decode cX1_fillColumn 107 = .ok (.iconst 1, 1) := by decide +kernel
theorem dX1_fillColumn_108 : decode cX1_fillColumn 108 = .ok (.iadd, 1) := by decide +kernel
theorem dX1_fillColumn_109 : decode cX1_fillColumn 109 = .ok (.laload, 1) := by decide +kernel
theorem dX1_fillColumn_110 : decode cX1_fillColumn 110 = .ok (.aload_n 0, 1) := by decide +kernel
theorem dX1_fillColumn_111 : decode cX1_fillColumn 111 = .ok (.getfield 32, 3) := by decide +kernel
theorem dX1_fillColumn_114 : decode cX1_fillColumn 114 = .ok (.getfield 65, 3) := by decide +kernel
theorem dX1_fillColumn_117 : decode cX1_fillColumn 117 = .ok (.iload_n 2, 1) := by decide +kernel
theorem dX1_fillColumn_118 : decode cX1_fillColumn 118 = .ok (.iconst 3, 1) := by decide +kernel
theorem dX1_fillColumn_119 : decode cX1_fillColumn 119 = .ok (.iadd, 1) := by decide +kernel
theorem dX1_fillColumn_120 : decode cX1_fillColumn 120 = .ok (.laload, 1) := by decide +kernel
theorem dX1_fillColumn_121 : decode cX1_fillColumn 121 = .ok (.ladd, 1) := by decide +kernel
theorem dX1_fillColumn_122 : decode cX1_fillColumn 122 = .ok (.lneg, 1) := by decide +kernel
theorem dX1_fillColumn_123 : decode cX1_fillColumn 123 = .ok (.lastore, 1) := by decide +kernel
theorem dX1_fillColumn_124 : decode cX1_fillColumn 124 = .ok (.iconst 0, 1) := by decide +kernel
theorem dX1_fillColumn_125 : decode cX1_fillColumn 125 = .ok (.iconst 0, 1) := by decide +kernel
theorem dX1_fillColumn_126 : decode cX1_fillColumn 126 = .ok (.invokestatic 59, 3) := by decide +kernel
theorem dX1_fillColumn_129 : decode cX1_fillColumn 129 = .ok (.istore_n 2, 1) := by decide +kernel
theorem dX1_fillColumn_130 : decode cX1_fillColumn 130 = .ok (.aload_n 0, 1) := by decide +kernel
theorem dX1_fillColumn_131 : decode cX1_fillColumn 131 = .ok (.getfield 11, 3) := by decide +kernel
theorem dX1_fillColumn_134 : decode cX1_fillColumn 134 = .ok (.bipush 6, 2) := by decide +kernel
theorem dX1_fillColumn_136 : decode cX1_fillColumn 136 = .ok (.iload_n 1, 1) := by decide +kernel
theorem dX1_fillColumn_137 : decode cX1_fillColumn 137 = .ok (.iadd, 1) := by decide +kernel
theorem dX1_fillColumn_138 : decode cX1_fillColumn 138 = .ok (.ldc2_w 63, 3) := by decide +kernel
theorem dX1_fillColumn_141 : decode cX1_fillColumn 141 = .ok (.aload_n 0, 1) := by decide +kernel
theorem dX1_fillColumn_142 : decode cX1_fillColumn 142 = .ok (.getfield 32, 3) := by decide +kernel
theorem dX1_fillColumn_145 : decode cX1_fillColumn 145 = .ok (.getfield 65, 3) := by decide +kernel
theorem dX1_fillColumn_148 : decode cX1_fillColumn 148 = .ok (.iload_n 2, 1) := by decide +kernel
theorem dX1_fillColumn_149 : decode cX1_fillColumn 149 = .ok (.laload, 1) := by decide +kernel
theorem dX1_fillColumn_150 : decode cX1_fillColumn 150 = .ok (.lmul, 1) := by decide +kernel
theorem dX1_fillColumn_151 : decode cX1_fillColumn 151 = .ok (.lastore, 1) := by decide +kernel
theorem dX1_fillColumn_152 : decode cX1_fillColumn 152 = .ok (.aload_n 0, 1) := by decide +kernel
theorem dX1_fillColumn_153 : decode cX1_fillColumn 153 = .ok (.getfield 15, 3) := by decide +kernel
theorem dX1_fillColumn_156 : decode cX1_fillColumn 156 = .ok (.bipush 6, 2) := by decide +kernel
theorem dX1_fillColumn_158 : decode cX1_fillColumn 158 = .ok (.iload_n 1, 1) := by decide +kernel
theorem dX1_fillColumn_159 : decode cX1_fillColumn 159 = .ok (.iadd, 1) := by decide +kernel
theorem dX1_fillColumn_160 : decode cX1_fillColumn 160 = .ok (.ldc2_w 63, 3) := by decide +kernel
theorem dX1_fillColumn_163 : decode cX1_fillColumn 163 = .ok (.aload_n 0, 1) := by decide +kernel
theorem dX1_fillColumn_164 : decode cX1_fillColumn 164 = .ok (.getfield 32, 3) := by decide +kernel
theorem dX1_fillColumn_167 : decode cX1_fillColumn 167 = .ok (.getfield 65, 3) := by decide +kernel
theorem dX1_fillColumn_170 : decode cX1_fillColumn 170 = .ok (.iload_n 2, 1) := by decide +kernel
theorem dX1_fillColumn_171 : decode cX1_fillColumn 171 = .ok (.iconst 1, 1) := by decide +kernel
theorem dX1_fillColumn_172 : decode cX1_fillColumn 172 = .ok (.iadd, 1) := by decide +kernel
theorem dX1_fillColumn_173 : decode cX1_fillColumn 173 = .ok (.laload, 1) := by decide +kernel
theorem dX1_fillColumn_174 : decode cX1_fillColumn 174 = .ok (.lmul, 1) := by decide +kernel
theorem dX1_fillColumn_175 : decode cX1_fillColumn 175 = .ok (.lastore, 1) := by decide +kernel
theorem dX1_fillColumn_176 : decode cX1_fillColumn 176 = .ok (.return_, 1) := by decide +kernel
theorem dX1_lower_0 : decode cX1_lower 0 = .ok (.iconst 0, 1) := by decide +kernel
theorem dX1_lower_1 : decode cX1_lower 1 = .ok (.istore_n 1, 1) := by decide +kernel
theorem dX1_lower_2 : decode cX1_lower 2 = .ok (.iload_n 1, 1) := by decide +kernel
theorem dX1_lower_3 : decode cX1_lower 3 = .ok (.sipush 1000, 3) := by decide +kernel
theorem dX1_lower_6 : decode cX1_lower 6 = .ok (.if_icmp .ge 77, 3) := by decide +kernel
theorem dX1_lower_9 : decode cX1_lower 9 = .ok (.aload_n 0, 1) := by decide +kernel
theorem dX1_lower_10 : decode cX1_lower 10 = .ok (.getfield 18, 3) := by decide +kernel
theorem dX1_lower_13 : decode cX1_lower 13 = .ok (.ifCond .le 70, 3) := by decide +kernel
theorem dX1_lower_16 : decode cX1_lower 16 = .ok (.aload_n 0, 1) := by decide +kernel
theorem dX1_lower_17 : decode cX1_lower 17 = .ok (.invokevirtual 70, 3) := by decide +kernel
theorem dX1_lower_20 : decode cX1_lower 20 = .ok (.ifCond .eq 63, 3) := by decide +kernel
theorem dX1_lower_23 : decode cX1_lower 23 = .ok (.iconst 0, 1) := by decide +kernel
theorem dX1_lower_24 : decode cX1_lower 24 = .ok (.istore_n 2, 1) := by decide +kernel
theorem dX1_lower_25 : decode cX1_lower 25 = .ok (.iload_n 2, 1) := by decide +kernel
theorem dX1_lower_26 : decode cX1_lower 26 = .ok (.bipush 9, 2) := by decide +kernel
theorem dX1_lower_28 : decode cX1_lower 28 = .ok (.if_icmp .ge 39, 3) := by decide +kernel
theorem dX1_lower_31 : decode cX1_lower 31 = .ok (.aload_n 0, 1) := by decide +kernel
theorem dX1_lower_32 : decode cX1_lower 32 = .ok (.getfield 11, 3) := by decide +kernel
theorem dX1_lower_35 : decode cX1_lower 35 = .ok (.iload_n 2, 1) := by decide +kernel
theorem dX1_lower_36 : decode cX1_lower 36 = .ok (.laload, 1) := by decide +kernel
theorem dX1_lower_37 : decode cX1_lower 37 = .ok (.ldc2_w 63, 3) := by decide +kernel
theorem dX1_lower_40 : decode cX1_lower 40 = .ok (.ldiv, 1) := by decide +kernel
theorem dX1_lower_41 : decode cX1_lower 41 = .ok (.lstore_n 3, 1) := by decide +kernel
theorem dX1_lower_42 : decode cX1_lower 42 = .ok (.aload_n 0, 1) := by decide +kernel
theorem dX1_lower_43 : decode cX1_lower 43 = .ok (.getfield 11, 3) := by decide +kernel
theorem dX1_lower_46 : decode cX1_lower 46 = .ok (.iload_n 2, 1) := by decide +kernel
theorem dX1_lower_47 : decode cX1_lower 47 = .ok (.aload_n 0, 1) := by decide +kernel
theorem dX1_lower_48 : decode cX1_lower 48 = .ok (.getfield 15, 3) := by decide +kernel
theorem dX1_lower_51 : decode cX1_lower 51 = .ok (.iload_n 2, 1) := by decide +kernel
theorem dX1_lower_52 : decode cX1_lower 52 = .ok (.laload, 1) := by decide +kernel
theorem dX1_lower_53 : decode cX1_lower 53 = .ok (.lastore, 1) := by decide +kernel
theorem dX1_lower_54 : decode cX1_lower 54 = .ok (.aload_n 0, 1) := by decide +kernel
theorem dX1_lower_55 : decode cX1_lower 55 = .ok (.getfield 15, 3) := by decide +kernel
theorem dX1_lower_58 : decode cX1_lower 58 = .ok (.iload_n 2, 1) := by decide +kernel
theorem dX1_lower_59 : decode cX1_lower 59 = .ok (.lload_n 3, 1) := by decide +kernel
theorem dX1_lower_60 : decode cX1_lower 60 = .ok (.lastore, 1) := by decide +kernel
theorem dX1_lower_61 : decode cX1_lower 61 = .ok (.iinc 2 1, 3) := by decide +kernel
theorem dX1_lower_64 : decode cX1_lower 64 = .ok (.goto (-39), 3) := by decide +kernel
theorem dX1_lower_67 : decode cX1_lower 67 = .ok (.aload_n 0, 1) := by decide +kernel
theorem dX1_lower_68 : decode cX1_lower 68 = .ok (.dup, 1) := by decide +kernel
theorem dX1_lower_69 : decode cX1_lower 69 = .ok (.getfield 18, 3) := by decide +kernel
theorem dX1_lower_72 : decode cX1_lower 72 = .ok (.iconst 1, 1) := by decide +kernel
theorem dX1_lower_73 : decode cX1_lower 73 = .ok (.isub, 1) := by decide +kernel
theorem dX1_lower_74 : decode cX1_lower 74 = .ok (.putfield 18, 3) := by decide +kernel
theorem dX1_lower_77 : decode cX1_lower 77 = .ok (.iinc 1 1, 3) := by decide +kernel
theorem dX1_lower_80 : decode cX1_lower 80 = .ok (.goto (-78), 3) := by decide +kernel
theorem dX1_lower_83 : decode cX1_lower 83 = .ok (.return_, 1) := by decide +kernel
theorem dX1_isEven_0 : decode cX1_isEven 0 = .ok (.iconst 0, 1) := by decide +kernel
theorem dX1_isEven_1 : decode cX1_isEven 1 = .ok (.istore_n 1, 1) := by decide +kernel
theorem dX1_isEven_2 : decode cX1_isEven 2 = .ok (.iload_n 1, 1) := by decide +kernel
theorem dX1_isEven_3 : decode cX1_isEven 3 = .ok (.bipush 9, 2) := by decide +kernel
theorem dX1_isEven_5 : decode cX1_isEven 5 = .ok (.if_icmp .ge 24, 3) := by decide +kernel
theorem dX1_isEven_8 : decode cX1_isEven 8 = .ok (.aload_n 0, 1) := by decide +kernel
theorem dX1_isEven_9 : decode cX1_isEven 9 = .ok (.getfield 11, 3) := by decide +kernel
theorem dX1_isEven_12 : decode cX1_isEven 12 = .ok (.iload_n 1, 1) := by decide +kernel
theorem dX1_isEven_13 : decode cX1_isEven 13 = .ok (.laload, 1) := by decide +kernel
theorem dX1_isEven_14 : decode cX1_isEven 14 = .ok (.lconst 1, 1) := by decide +kernel
theorem dX1_isEven_15 : decode cX1_isEven 15 = .ok (.land, 1) := by decide +kernel
theorem dX1_isEven_16 : decode cX1_isEven 16 = .ok (.lconst 0, 1) := by decide +kernel
theorem dX1_isEven_17 : decode cX1_isEven 17 = .ok (.lcmp, 1) := by decide +kernel
theorem dX1_isEven_18 : decode cX1_isEven 18 = .ok (.ifCond .eq 5, 3) := by decide +kernel
theorem dX1_isEven_21 : decode cX1_isEven 21 = .ok (.iconst 0, 1) := by decide +kernel
theorem dX1_isEven_22 : decode cX1_isEven 22 = .ok (.ireturn, 1) := by decide +kernel
theorem dX1_isEven_23 : decode cX1_isEven 23 = .ok (.iinc 1 1, 3) := by decide +kernel
theorem dX1_isEven_26 : decode cX1_isEven 26 = .ok (.goto (-24), 3) := by decide +kernel
theorem dX1_isEven_29 : decode cX1_isEven 29 = .ok (.iconst 1, 1) := by decide +kernel
theorem dX1_isEven_30 : decode cX1_isEven 30 = .ok (.ireturn, 1) := by decide +kernel
theorem dX2_init_0 : decode cX2_init 0 = .ok (.aload_n 0, 1) := by decide +kernel
theorem dX2_init_1 : decode cX2_init 1 = .ok (.invokespecial 3, 3) := by decide +kernel
theorem dX2_init_4 : decode cX2_init 4 = .ok (.aload_n 0, 1) := by decide +kernel
theorem dX2_init_5 : decode cX2_init 5 = .ok (.sipush 192, 3) := by decide +kernel
theorem dX2_init_8 : decode cX2_init 8 = .ok (.newarray .int, 2) := by decide +kernel
theorem dX2_init_10 : decode cX2_init 10 = .ok (.putfield 9, 3) := by decide +kernel
theorem dX2_init_13 : decode cX2_init 13 = .ok (.aload_n 0, 1) := by decide +kernel
theorem dX2_init_14 : decode cX2_init 14 = .ok (.sipush 1344, 3) := by decide +kernel
theorem dX2_init_17 : decode cX2_init 17 = .ok (.newarray .int, 2) := by decide +kernel
theorem dX2_init_19 : decode cX2_init 19 = .ok (.putfield 15, 3) := by decide +kernel
theorem dX2_init_22 : decode cX2_init 22 = .ok (.aload_n 0, 1) := by decide +kernel
theorem dX2_init_23 : decode cX2_init 23 = .ok (.sipush 1344, 3) := by decide +kernel
theorem dX2_init_26 : decode cX2_init 26 = .ok (.newarray .int, 2) := by decide +kernel
theorem dX2_init_28 : decode cX2_init 28 = .ok (.putfield 18, 3) := by decide +kernel
theorem dX2_init_31 : decode cX2_init 31 = .ok (.aload_n 0, 1) := by decide +kernel
theorem dX2_init_32 : decode cX2_init 32 = .ok (.sipush 192, 3) := by decide +kernel
theorem dX2_init_35 : decode cX2_init 35 = .ok (.newarray .int, 2) := by decide +kernel
theorem dX2_init_37 : decode cX2_init 37 = .ok (.putfield 21, 3) := by decide +kernel
theorem dX2_init_40 : decode cX2_init 40 = .ok (.aload_n 0, 1) := by decide +kernel
theorem dX2_init_41 : decode cX2_init 41 = .ok (.sipush 192, 3) := by decide +kernel
theorem dX2_init_44 : decode cX2_init 44 = .ok (.newarray .int, 2) := by decide +kernel
theorem dX2_init_46 : decode cX2_init 46 = .ok (.putfield 24, 3) := by decide +kernel
theorem dX2_init_49 : decode cX2_init 49 = .ok (.aload_n 0, 1) := by decide +kernel
theorem dX2_init_50 : decode cX2_init 50 = .ok (.sipush 192, 3) := by decide +kernel
theorem dX2_init_53 : decode cX2_init 53 = .ok (.newarray .int, 2) := by decide +kernel
theorem dX2_init_55 : decode cX2_init 55 = .ok (.putfield 27, 3) := by decide +kernel
theorem dX2_init_58 : decode cX2_init 58 = .ok (.aload_n 0, 1) := by decide +kernel
theorem dX2_init_59 : decode cX2_init 59 = .ok (.bipush 7, 2) := by decide +kernel
theorem dX2_init_61 : decode cX2_init 61 = .ok (.newarray .int, 2) := by decide +kernel
theorem dX2_init_63 : decode cX2_init 63 = .ok (.putfield 30, 3) := by decide +kernel
theorem dX2_init_66 : decode cX2_init 66 = .ok (.aload_n 0, 1) := by decide +kernel
theorem dX2_init_67 : decode cX2_init 67 = .ok (.new 33, 3) := by decide +kernel
theorem dX2_init_70 : decode cX2_init 70 = .ok (.dup, 1) := by decide +kernel
theorem dX2_init_71 : decode cX2_init 71 = .ok (.invokespecial 35, 3) := by decide +kernel
theorem dX2_init_74 : decode cX2_init 74 = .ok (.putfield 36, 3) := by decide +kernel
theorem dX2_init_77 : decode cX2_init 77 = .ok (.aload_n 0, 1) := by decide +kernel
theorem dX2_init_78 : decode cX2_init 78 = .ok (.iconst 0, 1) := by decide +kernel
theorem dX2_init_79 : decode cX2_init 79 = .ok (.putfield 40, 3) := by decide +kernel
theorem dX2_init_82 : decode cX2_init 82 = .ok (.aload_n 0, 1) := by decide +kernel
theorem dX2_init_83 : decode cX2_init 83 = .ok (.iconst 0, 1) := by decide +kernel
theorem dX2_init_84 : decode cX2_init 84 = .ok (.putfield 44, 3) := by decide +kernel
theorem dX2_init_87 : decode cX2_init 87 = .ok (.return_, 1) := by decide +kernel
theorem dX2_prepare_0 : decode cX2_prepare 0 = .ok (.aload_n 0, 1) := by decide +kernel
theorem dX2_prepare_1 : decode cX2_prepare 1 = .ok (.getfield 40, 3) := by decide +kernel
theorem dX2_prepare_4 : decode cX2_prepare 4 = .ok (.ifCond .le 4, 3) := by decide +kernel
theorem dX2_prepare_7 : decode cX2_prepare 7 = .ok (.return_, 1) := by decide +kernel
theorem dX2_prepare_8 : decode cX2_prepare 8 = .ok (.aload_n 0, 1) := by decide +kernel
theorem dX2_prepare_9 : decode cX2_prepare 9 = .ok (.getfield 36, 3) := by decide +kernel
theorem dX2_prepare_12 : decode cX2_prepare 12 = .ok (.invokevirtual 48, 3) := by decide +kernel
theorem dX2_prepare_15 : decode cX2_prepare 15 = .ok (.aload_n 0, 1) := by decide +kernel
theorem dX2_prepare_16 : decode cX2_prepare 16 = .ok (.getfield 9, 3) := by decide +kernel
theorem dX2_prepare_19 : decode cX2_prepare 19 = .ok (.iconst 0, 1) := by decide +kernel
theorem dX2_prepare_20 : decode cX2_prepare 20 = .ok (.aload_n 0, 1) := by decide +kernel
theorem dX2_prepare_21 : decode cX2_prepare 21 = .ok (.getfield 36, 3) := by decide +kernel
theorem dX2_prepare_24 : decode cX2_prepare 24 = .ok (.invokestatic 51, 3) := by decide +kernel
theorem dX2_prepare_27 : decode cX2_prepare 27 = .ok (.iastore, 1) := by decide +kernel
theorem dX2_prepare_28 : decode cX2_prepare 28 = .ok (.aload_n 0, 1) := by decide +kernel
theorem dX2_prepare_29 : decode cX2_prepare 29 = .ok (.iconst 1, 1) := by decide +kernel
theorem dX2_prepare_30 : decode cX2_prepare 30 = .ok (.putfield 40, 3) := by decide +kernel
theorem dX2_prepare_33 : decode cX2_prepare 33 = .ok (.iconst 0, 1) := by decide +kernel
theorem dX2_prepare_34 : decode cX2_prepare 34 = .ok (.istore_n 1, 1) := by decide +kernel
theorem dX2_prepare_35 : decode cX2_prepare 35 = .ok (.iload_n 1, 1) := by decide +kernel
theorem dX2_prepare_36 : decode cX2_prepare 36 = .ok (.aload_n 0, 1) := by decide +kernel
theorem dX2_prepare_37 : decode cX2_prepare 37 = .ok (.getfield 40, 3) := by decide +kernel
theorem dX2_prepare_40 : decode cX2_prepare 40 = .ok (.if_icmp .ge 34, 3) := by decide +kernel
theorem dX2_prepare_43 : decode cX2_prepare 43 = .ok (.iload_n 1, 1) := by decide +kernel
theorem dX2_prepare_44 : decode cX2_prepare 44 = .ok (.sipush 192, 3) := by decide +kernel
theorem dX2_prepare_47 : decode cX2_prepare 47 = .ok (.if_icmp .ge 27, 3) := by decide +kernel
theorem dX2_prepare_50 : decode cX2_prepare 50 = .ok (.aload_n 0, 1) := by decide +kernel
theorem dX2_prepare_51 : decode cX2_prepare 51 = .ok (.iload_n 1, 1) := by decide +kernel
theorem dX2_prepare_52 : decode cX2_prepare 52 = .ok (.iconst 0, 1) := by decide +kernel
theorem dX2_prepare_53 : decode cX2_prepare 53 = .ok (.invokevirtual 55, 3) := by decide +kernel
theorem dX2_prepare_56 : decode cX2_prepare 56 = .ok (.aload_n 0, 1) := by decide +kernel
theorem dX2_prepare_57 : decode cX2_prepare 57 = .ok (.iload_n 1, 1) := by decide +kernel
theorem dX2_prepare_58 : decode cX2_prepare 58 = .ok (.iconst 2, 1) := by decide +kernel
theorem dX2_prepare_59 : decode cX2_prepare 59 = .ok (.invokevirtual 55, 3) := by decide +kernel
theorem dX2_prepare_62 : decode cX2_prepare 62 = .ok (.aload_n 0, 1) := by decide +kernel
theorem dX2_prepare_63 : decode cX2_prepare 63 = .ok (.iload_n 1, 1) := by decide +kernel
theorem dX2_prepare_64 : decode cX2_prepare 64 = .ok (.iconst 5, 1) := by decide +kernel
theorem dX2_prepare_65 : decode cX2_prepare 65 = .ok (.invokevirtual 55, 3) := by decide +kernel
theorem dX2_prepare_68 : decode cX2_prepare 68 = .ok (.iinc 1 1, 3) := by decide +kernel
theorem dX2_prepare_71 : decode cX2_prepare 71 = .ok (.goto (-36), 3) := by decide +kernel
theorem dX2_prepare_74 : decode cX2_prepare 74 = .ok (.iconst 0, 1) := by decide +kernel
theorem dX2_prepare_75 : decode cX2_prepare 75 = .ok (.istore_n 1, 1) := by decide +kernel
theorem dX2_prepare_76 : decode cX2_prepare 76 = .ok (.iload_n 1, 1) := by decide +kernel
theorem dX2_prepare_77 : decode cX2_prepare 77 = .ok (.sipush 192, 3) := by decide +kernel
theorem dX2_prepare_80 : decode cX2_prepare 80 = .ok (.if_icmp .ge 31, 3) := by decide +kernel
theorem dX2_prepare_83 : decode cX2_prepare 83 = .ok (.aload_n 0, 1) := by decide +kernel
theorem dX2_prepare_84 : decode cX2_prepare 84 = .ok (.getfield 15, 3) := by decide +kernel
theorem dX2_prepare_87 : decode cX2_prepare 87 = .ok (.iload_n 1, 1) := by decide +kernel
theorem dX2_prepare_88 : decode cX2_prepare 88 = .ok (.bipush 7, 2) := by decide +kernel
theorem dX2_prepare_90 : decode cX2_prepare 90 = .ok (.imul, 1) := by decide +kernel
theorem dX2_prepare_91 : decode cX2_prepare 91 = .ok (.iconst 4, 1) := by decide +kernel
theorem dX2_prepare_92 : decode cX2_prepare 92 = .ok (.iadd, 1) := by decide +kernel
theorem dX2_prepare_93 : decode cX2_prepare 93 = .ok (.aload_n 0, 1) := by decide +kernel
theorem dX2_prepare_94 : decode cX2_prepare 94 = .ok (.aload_n 0, 1) := by decide +kernel
theorem dX2_prepare_95 : decode cX2_prepare 95 = .ok (.iload_n 1, 1) := by decide +kernel
theorem dX2_prepare_96 : decode cX2_prepare 96 = .ok (.iconst 2, 1) := by decide +kernel
theorem dX2_prepare_97 : decode cX2_prepare 97 = .ok (.invokevirtual 59, 3) := by decide +kernel
theorem dX2_prepare_100 : decode cX2_prepare 100 = .ok (.iconst 2, 1) := by decide +kernel
theorem dX2_prepare_101 : decode cX2_prepare 101 = .ok (.invokevirtual 59, 3) := by decide +kernel
theorem dX2_prepare_104 : decode cX2_prepare 104 = .ok (.iastore, 1) := by decide +kernel
theorem dX2_prepare_105 : decode cX2_prepare 105 = .ok (.iinc 1 1, 3) := by decide +kernel
theorem dX2_prepare_108 : decode cX2_prepare 108 = .ok (.goto (-32), 3) := by decide +kernel
theorem dX2_prepare_111 : decode cX2_prepare 111 = .ok (.iconst 0, 1) := by decide +kernel
theorem dX2_prepare_112 : decode cX2_prepare 112 = .ok (.istore_n 1, 1) := by decide +kernel
theorem dX2_prepare_113 : decode cX2_prepare 113 = .ok (.iload_n 1, 1) := by decide +kernel
theorem dX2_prepare_114 : decode cX2_prepare 114 = .ok (.sipush 192, 3) := by decide +kernel
theorem dX2_prepare_117 : decode cX2_prepare 117 = .ok (.if_icmp .ge 36, 3) := by decide +kernel
theorem dX2_prepare_120 : decode cX2_prepare 120 = .ok (.aload_n 0, 1) := by decide +kernel
theorem dX2_prepare_121 : decode cX2_prepare 121 = .ok (.getfield 15, 3) := by decide +kernel
theorem dX2_prepare_124 : decode cX2_prepare 124 = .ok (.iload_n 1, 1) := by decide +kernel
theorem dX2_prepare_125 : decode cX2_prepare 125 = .ok (.bipush 7, 2) := by decide +kernel
theorem dX2_prepare_127 : decode cX2_prepare 127 = .ok (.imul, 1) := by decide +kernel
theorem dX2_prepare_128 : decode cX2_prepare 128 = .ok (.iconst 3, 1) := by decide +kernel
theorem dX2_prepare_129 : decode cX2_prepare 129 = .ok (.iadd, 1) := by decide +kernel
theorem dX2_prepare_130 : decode cX2_prepare 130 = .ok (.aload_n 0, 1) := by decide +kernel
theorem dX2_prepare_131 : decode cX2_prepare 131 = .ok (.aload_n 0, 1) := by decide +kernel
theorem dX2_prepare_132 : decode cX2_prepare 132 = .ok (.aload_n 0, 1) := by decide +kernel
theorem dX2_prepare_133 : decode cX2_prepare 133 = .ok (.iload_n 1, 1) := by decide +kernel
theorem dX2_prepare_134 : decode cX2_prepare 134 = .ok (.iconst 0, 1) := by decide +kernel
theorem dX2_prepare_135 : decode cX2_prepare 135 = .ok (.invokevirtual 59, 3) := by decide +kernel
theorem dX2_prepare_138 : decode cX2_prepare 138 = .ok (.iconst 4, 1) := by decide +kernel
theorem dX2_prepare_139 : decode cX2_prepare 139 = .ok (.invokevirtual 59, 3) := by decide +kernel
theorem dX2_prepare_142 : decode cX2_prepare 142 = .ok (.iconst 0, 1) := by decide +kernel
theorem dX2_prepare_143 : decode cX2_prepare 143 = .ok (.invokevirtual 59, 3) := by decide +kernel
theorem dX2_prepare_146 : decode cX2_prepare 146 = .ok (.iastore, 1) := by decide +kernel
theorem dX2_prepare_147 : decode cX2_prepare 147 = .ok (.iinc 1 1, 3) := by decide +kernel
theorem dX2_prepare_150 : decode cX2_prepare 150 = .ok (.goto (-37), 3) := by decide +kernel
theorem dX2_prepare_153 : decode cX2_prepare 153 = .ok (.getstatic 63, 3) := by decide +kernel
theorem dX2_prepare_156 : decode cX2_prepare 156 = .ok (.astore_n 1, 1) := by decide +kernel
theorem dX2_prepare_157 : decode cX2_prepare 157 = .ok (.aload_n 1, 1) := by decide +kernel
theorem dX2_prepare_158 : decode cX2_prepare 158 = .ok (.arraylength, 1) := by decide +kernel
theorem dX2_prepare_159 : decode cX2_prepare 159 = .ok (.istore_n 2, 1) := by decide +kernel
theorem dX2_prepare_160 : decode cX2_prepare 160 = .ok (.iconst 0, 1) := by decide +kernel
theorem dX2_prepare_161 : decode cX2_prepare 161 = .ok (.istore_n 3, 1) := by decide +kernel
theorem dX2_prepare_162 : decode cX2_prepare 162 = .ok (.iload_n 3, 1) := by decide +kernel
theorem dX2_prepare_163 : decode cX2_prepare 163 = .ok (.iload_n 2, 1) := by decide +kernel
theorem dX2_prepare_164 : decode cX2_prepare 164 = .ok (.if_icmp .ge 20, 3) := by decide +kernel
theorem dX2_prepare_167 : decode cX2_prepare 167 = .ok (.aload_n 1, 1) := by decide +kernel
theorem dX2_prepare_168 : decode cX2_prepare 168 = .ok (.iload_n 3, 1) := by decide +kernel
theorem dX2_prepare_169 : decode cX2_prepare 169 = .ok (.iaload, 1) := by decide +kernel
theorem dX2_prepare_170 : decode cX2_prepare 170 = .ok (.istore 4, 2) := by decide +kernel
theorem dX2_prepare_172 : decode cX2_prepare 172 = .ok (.aload_n 0, 1) := by decide +kernel
theorem dX2_prepare_173 : decode cX2_prepare 173 = .ok (.iload 4, 2) := by decide +kernel
theorem dX2_prepare_175 : decode cX2_prepare 175 = .ok (.invokevirtual 66, 3) := by decide +kernel
theorem dX2_prepare_178 : decode cX2_prepare 178 = .ok (.iinc 3 1, 3) := by decide +kernel
theorem dX2_prepare_181 : decode cX2_prepare 181 = .ok (.goto (-19), 3) := by decide +kernel
theorem dX2_prepare_184 : decode cX2_prepare 184 = .ok (.return_, 1) := by decide +kernel
theorem dX2_find_0 : decode cX2_find 0 = .ok (.aload_n 0, 1) := by decide +kernel
theorem dX2_find_1 : decode cX2_find 1 = .ok (.aload_n 1, 1) := by decide +kernel
theorem dX2_find_2 : decode cX2_find 2 = .ok (.invokestatic 51, 3) := by decide +kernel
theorem dX2_find_5 : decode cX2_find 5 = .ok (.invokevirtual 70, 3) := by decide +kernel
theorem dX2_find_8 : decode cX2_find 8 = .ok (.ireturn, 1) := by decide +kernel
theorem dX2_load_0 : decode cX2_load 0 = .ok (.aload_n 0, 1) := by decide +kernel
theorem dX2_load_1 : decode cX2_load 1 = .ok (.getfield 9, 3) := by decide +kernel
theorem dX2_load_4 : decode cX2_load 4 = .ok (.iload_n 1, 1) := by decide +kernel
theorem dX2_load_5 : decode cX2_load 5 = .ok (.iaload, 1) := by decide +kernel
theorem dX2_load_6 : decode cX2_load 6 = .ok (.istore_n 3, 1) := by decide +kernel
theorem dX2_load_7 : decode cX2_load 7 = .ok (.bipush 15, 2) := by decide +kernel
theorem dX2_load_9 : decode cX2_load 9 = .ok (.istore 4, 2) := by decide +kernel
theorem dX2_load_11 : decode cX2_load 11 = .ok (.iload 4, 2) := by decide +kernel
theorem dX2_load_13 : decode cX2_load 13 = .ok (.ifCond .lt 26, 3) := by decide +kernel
theorem dX2_load_16 : decode cX2_load 16 = .ok (.aload_n 2, 1) := by decide +kernel
theorem dX2_load_17 : decode cX2_load 17 = .ok (.getfield 74, 3) := by decide +kernel
theorem dX2_load_20 : decode cX2_load 20 = .ok (.iload 4, 2) := by decide +kernel
theorem dX2_load_22 : decode cX2_load 22 = .ok (.iload_n 3, 1) := by decide +kernel
theorem dX2_load_23 : decode cX2_load 23 = .ok (.iconst 3, 1) := by decide +kernel
theorem dX2_load_24 : decode cX2_load 24 = .ok (.irem, 1) := by decide +kernel
theorem dX2_load_25 : decode cX2_load 25 = .ok (.iconst 1, 1) := by decide +kernel
theorem dX2_load_26 : decode cX2_load 26 = .ok (.isub, 1) := by decide +kernel
theorem dX2_load_27 : decode cX2_load 27 = .ok (.i2l, 1) := by decide +kernel
theorem dX2_load_28 : decode cX2_load 28 = .ok (.lastore, 1) := by decide +kernel
theorem dX2_load_29 : decode cX2_load 29 = .ok (.iload_n 3, 1) := by decide +kernel
theorem dX2_load_30 : decode cX2_load 30 = .ok (.iconst 3, 1) := by decide +kernel
theorem dX2_load_31 : decode cX2_load 31 = .ok (.idiv, 1) := by decide +kernel
theorem dX2_load_32 : decode cX2_load 32 = .ok (.istore_n 3, 1) := by decide +kernel
theorem dX2_load_33 : decode cX2_load 33 = .ok (.iinc 4 (-1), 3) := by decide +kernel
theorem dX2_load_36 : decode cX2_load 36 = .ok (.goto (-25), 3) := by decide +kernel
theorem dX2_load_39 : decode cX2_load 39 = .ok (.aload_n 2, 1) := by decide +kernel
theorem dX2_load_40 : decode cX2_load 40 = .ok (.iload_n 3, 1) := by decide +kernel
theorem dX2_load_41 : decode cX2_load 41 = .ok (.putfield 78, 3) := by decide +kernel
theorem dX2_load_44 : decode cX2_load 44 = .ok (.return_, 1) := by decide +kernel
theorem dX2_next_0 : decode cX2_next 0 = .ok (.aload_n 0, 1) := by decide +kernel
theorem dX2_next_1 : decode cX2_next 1 = .ok (.getfield 15, 3) := by decide +kernel
theorem dX2_next_4 : decode cX2_next 4 = .ok (.iload_n 1, 1) := by decide +kernel
theorem dX2_next_5 : decode cX2_next 5 = .ok (.bipush 7, 2) := by decide +kernel
theorem dX2_next_7 : decode cX2_next 7 = .ok (.imul, 1) := by decide +kernel
theorem dX2_next_8 : decode cX2_next 8 = .ok (.iload_n 2, 1) := by decide +kernel
theorem dX2_next_9 : decode cX2_next 9 = .ok (.iadd, 1) := by decide +kernel
theorem dX2_next_10 : decode cX2_next 10 = .ok (.iaload, 1) := by decide +kernel
theorem dX2_next_11 : decode cX2_next 11 = .ok (.ireturn, 1) := by decide +kernel
theorem dX2_keyOf_0 : decode cX2_keyOf 0 = .ok (.aload_n 0, 1) := by decide +kernel
theorem dX2_keyOf_1 : decode cX2_keyOf 1 = .ok (.getfield 78, 3) := by decide +kernel
theorem dX2_keyOf_4 : decode cX2_keyOf 4 = .ok (.iconst 1, 1) := by decide +kernel
theorem dX2_keyOf_5 : decode cX2_keyOf 5 = .ok (.if_icmp .le 6, 3) := by decide +kernel
theorem dX2_keyOf_8 : decode cX2_keyOf 8 = .ok (.bipush (-2), 2) := by decide +kernel
theorem dX2_keyOf_10 : decode cX2_keyOf 10 = .ok (.ireturn, 1) := by decide +kernel
theorem dX2_keyOf_11 : decode cX2_keyOf 11 = .ok (.aload_n 0, 1) := by decide +kernel
theorem dX2_keyOf_12 : decode cX2_keyOf 12 = .ok (.getfield 78, 3) := by decide +kernel
theorem dX2_keyOf_15 : decode cX2_keyOf 15 = .ok (.istore_n 1, 1) := by decide +kernel
theorem dX2_keyOf_16 : decode cX2_keyOf 16 = .ok (.iconst 0, 1) := by decide +kernel
theorem dX2_keyOf_17 : decode cX2_keyOf 17 = .ok (.istore_n 2, 1) := by decide +kernel
theorem dX2_keyOf_18 : decode cX2_keyOf 18 = .ok (.iload_n 2, 1) := by decide +kernel
theorem dX2_keyOf_19 : decode cX2_keyOf 19 = .ok (.bipush 16, 2) := by decide +kernel
theorem dX2_keyOf_21 : decode cX2_keyOf 21 = .ok (.if_icmp .ge 42, 3) := by decide +kernel
theorem dX2_keyOf_24 : decode cX2_keyOf 24 = .ok (.aload_n 0, 1) := by decide +kernel
theorem dX2_keyOf_25 : decode cX2_keyOf 25 = .ok (.getfield 74, 3) := by decide +kernel
theorem dX2_keyOf_28 : decode cX2_keyOf 28 = .ok (.iload_n 2, 1) := by decide +kernel
theorem dX2_keyOf_29 : decode cX2_keyOf 29 = .ok (.laload, 1) := by decide +kernel
theorem dX2_keyOf_30 : decode cX2_keyOf 30 = .ok (.lstore_n 3, 1) := by decide +kernel
theorem dX2_keyOf_31 : decode cX2_keyOf 31 = .ok (.lload_n 3, 1) := by decide +kernel
theorem dX2_keyOf_32 : decode cX2_keyOf 32 = .ok (.ldc2_w 81, 3) := by decide +kernel
theorem dX2_keyOf_35 : decode cX2_keyOf 35 = .ok (.lcmp, 1) := by decide +kernel
theorem dX2_keyOf_36 : decode cX2_keyOf 36 = .ok (.ifCond .lt 9, 3) := by decide +kernel
theorem dX2_keyOf_39 : decode cX2_keyOf 39 = .ok (.lload_n 3, 1) := by decide +kernel
theorem dX2_keyOf_40 : decode cX2_keyOf 40 = .ok (.lconst 1, 1) := by decide +kernel
theorem dX2_keyOf_41 : decode cX2_keyOf 41 = .ok (.lcmp, 1) := by decide +kernel
theorem dX2_keyOf_42 : decode cX2_keyOf 42 = .ok (.ifCond .le 6, 3) := by decide +kernel
theorem dX2_keyOf_45 : decode cX2_keyOf 45 = .ok (.bipush (-2), 2) := by decide +kernel
theorem dX2_keyOf_47 : decode cX2_keyOf 47 = .ok (.ireturn, 1) := by decide +kernel
theorem dX2_keyOf_48 : decode cX2_keyOf 48 = .ok (.iload_n 1, 1) := by decide +kernel
theorem dX2_keyOf_49 : decode cX2_keyOf 49 = .ok (.iconst 3, 1) := by decide +kernel
theorem dX2_keyOf_50 : decode cX2_keyOf 50 = .ok (.imul, 1) := by decide +kernel
theorem dX2_keyOf_51 : decode cX2_keyOf 51 = .ok (.lload_n 3, 1) := by decide +kernel
theorem dX2_keyOf_52 : decode cX2_keyOf 52 = .ok (.l2i, 1) := by decide +kernel
theorem dX2_keyOf_53 : decode cX2_keyOf 53 = .ok (.iadd, 1) := by decide +kernel
theorem dX2_keyOf_54 : decode cX2_keyOf 54 = .ok (.iconst 1, 1) := by decide +kernel
theorem dX2_keyOf_55 : decode cX2_keyOf 55 = .ok (.iadd, 1) := by decide +kernel
theorem dX2_keyOf_56 : decode cX2_keyOf 56 = .ok (.istore_n 1, 1) := by decide +kernel
theorem dX2_keyOf_57 : decode cX2_keyOf 57 = .ok (.iinc 2 1, 3) := by decide +kernel
theorem dX2_keyOf_60 : decode cX2_keyOf 60 = .ok (.goto (-42), 3) := by decide +kernel
theorem dX2_keyOf_63 : decode cX2_keyOf 63 = .ok (.iload_n 1, 1) := by decide +kernel
theorem dX2_keyOf_64 : decode cX2_keyOf 64 = .ok (.ireturn, 1) := by decide +kernel
theorem dX2_findKey_0 : decode cX2_findKey 0 = .ok (.iconst 0, 1) := by decide +kernel
theorem dX2_findKey_1 : decode cX2_findKey 1 = .ok (.istore_n 2, 1) := by decide +kernel
theorem dX2_findKey_2 : decode cX2_findKey 2 = .ok (.iload_n 2, 1) := by decide +kernel
theorem dX2_findKey_3 : decode cX2_findKey 3 = .ok (.aload_n 0, 1) := by decide +kernel
theorem dX2_findKey_4 : decode cX2_findKey 4 = .ok (.getfield 40, 3) := by decide +kernel
theorem dX2_findKey_7 : decode cX2_findKey 7 = .ok (.if_icmp .ge 21, 3) := by decide +kernel
theorem dX2_findKey_10 : decode cX2_findKey 10 = .ok (.aload_n 0, 1) := by decide +kernel
theorem dX2_findKey_11 : decode cX2_findKey 11 = .ok (.getfield 9, 3) := by decide +kernel
theorem dX2_findKey_14 : decode cX2_findKey 14 = .ok (.iload_n 2, 1) := by decide +kernel
theorem dX2_findKey_15 : decode cX2_findKey 15 = .ok (.iaload, 1) := by decide +kernel
theorem dX2_findKey_16 : decode cX2_findKey 16 = .ok (.iload_n 1, 1) := by decide +kernel
theorem dX2_findKey_17 : decode cX2_findKey 17 = .ok (.if_icmp .ne 5, 3) := by decide +kernel
theorem dX2_findKey_20 : decode cX2_findKey 20 = .ok (.iload_n 2, 1) := by decide +kernel
theorem dX2_findKey_21 : decode cX2_findKey 21 = .ok (.ireturn, 1) := by decide +kernel
theorem dX2_findKey_22 : decode cX2_findKey 22 = .ok (.iinc 2 1, 3) := by decide +kernel
theorem dX2_findKey_25 : decode cX2_findKey 25 = .ok (.goto (-23), 3) := by decide +kernel
theorem dX2_findKey_28 : decode cX2_findKey 28 = .ok (.bipush (-2), 2) := by decide +kernel
theorem dX2_findKey_30 : decode cX2_findKey 30 = .ok (.ireturn, 1) := by decide +kernel
theorem dX2_reach_0 : decode cX2_reach 0 = .ok (.aload_n 0, 1) := by decide +kernel
theorem dX2_reach_1 : decode cX2_reach 1 = .ok (.iload_n 1, 1) := by decide +kernel
theorem dX2_reach_2 : decode cX2_reach 2 = .ok (.aload_n 0, 1) := by decide +kernel
theorem dX2_reach_3 : decode cX2_reach 3 = .ok (.getfield 36, 3) := by decide +kernel
theorem dX2_reach_6 : decode cX2_reach 6 = .ok (.invokevirtual 83, 3) := by decide +kernel
theorem dX2_reach_9 : decode cX2_reach 9 = .ok (.aload_n 0, 1) := by decide +kernel
theorem dX2_reach_10 : decode cX2_reach 10 = .ok (.getfield 36, 3) := by decide +kernel
theorem dX2_reach_13 : decode cX2_reach 13 = .ok (.iload_n 2, 1) := by decide +kernel
theorem dX2_reach_14 : decode cX2_reach 14 = .ok (.invokevirtual 87, 3) := by decide +kernel
theorem dX2_reach_17 : decode cX2_reach 17 = .ok (.aload_n 0, 1) := by decide +kernel
theorem dX2_reach_18 : decode cX2_reach 18 = .ok (.getfield 36, 3) := by decide +kernel
theorem dX2_reach_21 : decode cX2_reach 21 = .ok (.invokestatic 51, 3) := by decide +kernel
theorem dX2_reach_24 : decode cX2_reach 24 = .ok (.istore_n 3, 1) := by decide +kernel
theorem dX2_reach_25 : decode cX2_reach 25 = .ok (.aload_n 0, 1) := by decide +kernel
theorem dX2_reach_26 : decode cX2_reach 26 = .ok (.iload_n 3, 1) := by decide +kernel
theorem dX2_reach_27 : decode cX2_reach 27 = .ok (.invokevirtual 70, 3) := by decide +kernel
theorem dX2_reach_30 : decode cX2_reach 30 = .ok (.istore 4, 2) := by decide +kernel
theorem dX2_reach_32 : decode cX2_reach 32 = .ok (.iload 4, 2) := by decide +kernel
theorem dX2_reach_34 : decode cX2_reach 34 = .ok (.ifCond .ge 53, 3) := by decide +kernel
theorem dX2_reach_37 : decode cX2_reach 37 = .ok (.aload_n 0, 1) := by decide +kernel
theorem dX2_reach_38 : decode cX2_reach 38 = .ok (.getfield 40, 3) := by decide +kernel
theorem dX2_reach_41 : decode cX2_reach 41 = .ok (.sipush 192, 3) := by decide +kernel
theorem dX2_reach_44 : decode cX2_reach 44 = .ok (.if_icmp .ge 43, 3) := by decide +kernel
theorem dX2_reach_47 : decode cX2_reach 47 = .ok (.aload_n 0, 1) := by decide +kernel
theorem dX2_reach_48 : decode cX2_reach 48 = .ok (.getfield 40, 3) := by decide +kernel
theorem dX2_reach_51 : decode cX2_reach 51 = .ok (.istore 4, 2) := by decide +kernel
theorem dX2_reach_53 : decode cX2_reach 53 = .ok (.aload_n 0, 1) := by decide +kernel
theorem dX2_reach_54 : decode cX2_reach 54 = .ok (.getfield 9, 3) := by decide +kernel
theorem dX2_reach_57 : decode cX2_reach 57 = .ok (.iload 4, 2) := by decide +kernel
theorem dX2_reach_59 : decode cX2_reach 59 = .ok (.iload_n 3, 1) := by decide +kernel
theorem dX2_reach_60 : decode cX2_reach 60 = .ok (.iastore, 1) := by decide +kernel
theorem dX2_reach_61 : decode cX2_reach 61 = .ok (.aload_n 0, 1) := by decide +kernel
theorem dX2_reach_62 : decode cX2_reach 62 = .ok (.getfield 21, 3) := by decide +kernel
theorem dX2_reach_65 : decode cX2_reach 65 = .ok (.iload 4, 2) := by decide +kernel
theorem dX2_reach_67 : decode cX2_reach 67 = .ok (.iload_n 1, 1) := by decide +kernel
theorem dX2_reach_68 : decode cX2_reach 68 = .ok (.iastore, 1) := by decide +kernel
theorem dX2_reach_69 : decode cX2_reach 69 = .ok (.aload_n 0, 1) := by decide +kernel
theorem dX2_reach_70 : decode cX2_reach 70 = .ok (.getfield 24, 3) := by decide +kernel
theorem dX2_reach_73 : decode cX2_reach 73 = .ok (.iload 4, 2) := by decide +kernel
theorem dX2_reach_75 : decode cX2_reach 75 = .ok (.iload_n 2, 1) := by decide +kernel
theorem dX2_reach_76 : decode cX2_reach 76 = .ok (.iastore, 1) := by decide +kernel
theorem dX2_reach_77 : decode cX2_reach 77 = .ok (.aload_n 0, 1) := by decide +kernel
theorem dX2_reach_78 : decode cX2_reach 78 = .ok (.dup, 1) := by decide +kernel
theorem dX2_reach_79 : decode cX2_reach 79 = .ok (.getfield 40, 3) := by decide +kernel
theorem dX2_reach_82 : decode cX2_reach 82 = .ok (.iconst 1, 1) := by decide +kernel
theorem dX2_reach_83 : decode cX2_reach 83 = .ok (.iadd, 1) := by decide +kernel
theorem dX2_reach_84 : decode cX2_reach 84 = .ok (.putfield 40, 3) := by decide +kernel
theorem dX2_reach_87 : decode cX2_reach 87 = .ok (.aload_n 0, 1) := by decide +kernel
theorem dX2_reach_88 : decode cX2_reach 88 = .ok (.getfield 15, 3) := by decide +kernel
theorem dX2_reach_91 : decode cX2_reach 91 = .ok (.iload_n 1, 1) := by decide +kernel
theorem dX2_reach_92 : decode cX2_reach 92 = .ok (.bipush 7, 2) := by decide +kernel
theorem dX2_reach_94 : decode cX2_reach 94 = .ok (.imul, 1) := by decide +kernel
theorem dX2_reach_95 : decode cX2_reach 95 = .ok (.iload_n 2, 1) := by decide +kernel
theorem dX2_reach_96 : decode cX2_reach 96 = .ok (.iadd, 1) := by decide +kernel
theorem dX2_reach_97 : decode cX2_reach 97 = .ok (.iload 4, 2) := by decide +kernel
theorem dX2_reach_99 : decode cX2_reach 99 = .ok (.iconst 0, 1) := by decide +kernel
theorem dX2_reach_100 : decode cX2_reach 100 = .ok (.invokestatic 90, 3) := by decide +kernel
theorem dX2_reach_103 : decode cX2_reach 103 = .ok (.iastore, 1) := by decide +kernel
theorem dX2_reach_104 : decode cX2_reach 104 = .ok (.return_, 1) := by decide +kernel
theorem dX2_fillWithout_0 : decode cX2_fillWithout 0 = .ok (.iconst 0, 1) := by decide +kernel
theorem dX2_fillWithout_1 : decode cX2_fillWithout 1 = .ok (.istore_n 2, 1) := by decide +kernel
theorem dX2_fillWithout_2 : decode cX2_fillWithout 2 = .ok (.iload_n 2, 1) := by decide +kernel
theorem dX2_fillWithout_3 : decode cX2_fillWithout 3 = .ok (.sipush 192, 3) := by decide +kernel
theorem dX2_fillWithout_6 : decode cX2_fillWithout 6 = .ok (.if_icmp .ge 30, 3) := by decide +kernel
theorem dX2_fillWithout_9 : decode cX2_fillWithout 9 = .ok (.aload_n 0, 1) := by decide +kernel
theorem dX2_fillWithout_10 : decode cX2_fillWithout 10 = .ok (.getfield 15, 3) := by decide +kernel
theorem dX2_fillWithout_13 : decode cX2_fillWithout 13 = .ok (.iload_n 2, 1) := by decide +kernel
theorem dX2_fillWithout_14 : decode cX2_fillWithout 14 = .ok (.bipush 7, 2) := by decide +kernel
theorem dX2_fillWithout_16 : decode cX2_fillWithout 16 = .ok (.imul, 1) := by decide +kernel
theorem dX2_fillWithout_17 : decode cX2_fillWithout 17 = .ok (.iload_n 1, 1) := by decide +kernel
theorem dX2_fillWithout_18 : decode cX2_fillWithout 18 = .ok (.iadd, 1) := by decide +kernel
theorem dX2_fillWithout_19 : decode cX2_fillWithout 19 = .ok (.iaload, 1) := by decide +kernel
theorem dX2_fillWithout_20 : decode cX2_fillWithout 20 = .ok (.ifCond .ne 10, 3) := by decide +kernel
theorem dX2_fillWithout_23 : decode cX2_fillWithout 23 = .ok (.aload_n 0, 1) := by decide +kernel
theorem dX2_fillWithout_24 : decode cX2_fillWithout 24 = .ok (.getfield 18, 3) := by decide +kernel
theorem dX2_fillWithout_27 : decode cX2_fillWithout 27 = .ok (.iload_n 1, 1) := by decide +kernel
theorem dX2_fillWithout_28 : decode cX2_fillWithout 28 = .ok (.iload_n 2, 1) := by decide +kernel
theorem dX2_fillWithout_29 : decode cX2_fillWithout 29 = .ok (.iastore, 1) := by decide +kernel
theorem dX2_fillWithout_30 : decode cX2_fillWithout 30 = .ok (.iinc 2 1, 3) := by decide +kernel
theorem dX2_fillWithout_33 : decode cX2_fillWithout 33 = .ok (.goto (-31), 3) := by decide +kernel
theorem dX2_fillWithout_36 : decode cX2_fillWithout 36 = .ok (.iconst 1, 1) := by decide +kernel
theorem dX2_fillWithout_37 : decode cX2_fillWithout 37 = .ok (.istore_n 2, 1) := by decide +kernel
theorem dX2_fillWithout_38 : decode cX2_fillWithout 38 = .ok (.iload_n 2, 1) := by decide +kernel
theorem dX2_fillWithout_39 : decode cX2_fillWithout 39 = .ok (.sipush 192, 3) := by decide +kernel
theorem dX2_fillWithout_42 : decode cX2_fillWithout 42 = .ok (.if_icmp .ge 46, 3) := by decide +kernel
theorem dX2_fillWithout_45 : decode cX2_fillWithout 45 = .ok (.aload_n 0, 1) := by decide +kernel
theorem dX2_fillWithout_46 : decode cX2_fillWithout 46 = .ok (.getfield 18, 3) := by decide +kernel
theorem dX2_fillWithout_49 : decode cX2_fillWithout 49 = .ok (.iload_n 2, 1) := by decide +kernel
theorem dX2_fillWithout_50 : decode cX2_fillWithout 50 = .ok (.bipush 7, 2) := by decide +kernel
theorem dX2_fillWithout_52 : decode cX2_fillWithout 52 = .ok (.imul, 1) := by decide +kernel
theorem dX2_fillWithout_53 : decode cX2_fillWithout 53 = .ok (.iload_n 1, 1) := by decide +kernel
theorem dX2_fillWithout_54 : decode cX2_fillWithout 54 = .ok (.iadd, 1) := by decide +kernel
theorem dX2_fillWithout_55 : decode cX2_fillWithout 55 = .ok (.aload_n 0, 1) := by decide +kernel
theorem dX2_fillWithout_56 : decode cX2_fillWithout 56 = .ok (.aload_n 0, 1) := by decide +kernel
theorem dX2_fillWithout_57 : decode cX2_fillWithout 57 = .ok (.getfield 18, 3) := by decide +kernel
theorem dX2_fillWithout_60 : decode cX2_fillWithout 60 = .ok (.aload_n 0, 1) := by decide +kernel
theorem dX2_fillWithout_61 : decode cX2_fillWithout 61 = .ok (.getfield 21, 3) := by decide +kernel
theorem dX2_fillWithout_64 : decode cX2_fillWithout 64 = .ok (.iload_n 2, 1) := by decide +kernel
theorem dX2_fillWithout_65 : decode cX2_fillWithout 65 = .ok (.iaload, 1) := by decide +kernel
theorem dX2_fillWithout_66 : decode cX2_fillWithout 66 = .ok (.bipush 7, 2) := by decide +kernel
theorem dX2_fillWithout_68 : decode cX2_fillWithout 68 = .ok (.imul, 1) := by decide +kernel
theorem dX2_fillWithout_69 : decode cX2_fillWithout 69 = .ok (.iload_n 1, 1) := by decide +kernel
theorem dX2_fillWithout_70 : decode cX2_fillWithout 70 = .ok (.iadd, 1) := by decide +kernel
theorem dX2_fillWithout_71 : decode cX2_fillWithout 71 = .ok (.iaload, 1) := by decide +kernel
theorem dX2_fillWithout_72 : decode cX2_fillWithout 72 = .ok (.aload_n 0, 1) := by decide +kernel
theorem dX2_fillWithout_73 : decode cX2_fillWithout 73 = .ok (.getfield 24, 3) := by decide +kernel
theorem dX2_fillWithout_76 : decode cX2_fillWithout 76 = .ok (.iload_n 2, 1) := by decide +kernel
theorem dX2_fillWithout_77 : decode cX2_fillWithout 77 = .ok (.iaload, 1) := by decide +kernel
theorem dX2_fillWithout_78 : decode cX2_fillWithout 78 = .ok (.invokevirtual 59, 3) := by decide +kernel
theorem dX2_fillWithout_81 : decode cX2_fillWithout 81 = .ok (.iastore, 1) := by decide +kernel
theorem dX2_fillWithout_82 : decode cX2_fillWithout 82 = .ok (.iinc 2 1, 3) := by decide +kernel
theorem dX2_fillWithout_85 : decode cX2_fillWithout 85 = .ok (.goto (-47), 3) := by decide +kernel
theorem dX2_fillWithout_88 : decode cX2_fillWithout 88 = .ok (.return_, 1) := by decide +kernel
theorem dX2_rankBy_0 : decode cX2_rankBy 0 = .ok (.aload_n 0, 1) := by decide +kernel
theorem dX2_rankBy_1 : decode cX2_rankBy 1 = .ok (.invokevirtual 95, 3) := by decide +kernel
theorem dX2_rankBy_4 : decode cX2_rankBy 4 = .ok (.aload_n 0, 1) := by decide +kernel
theorem dX2_rankBy_5 : decode cX2_rankBy 5 = .ok (.getfield 44, 3) := by decide +kernel
theorem dX2_rankBy_8 : decode cX2_rankBy 8 = .ok (.ifCond .eq 12, 3) := by decide +kernel
theorem dX2_rankBy_11 : decode cX2_rankBy 11 = .ok (.aload_n 0, 1) := by decide +kernel
theorem dX2_rankBy_12 : decode cX2_rankBy 12 = .ok (.aload_n 1, 1) := by decide +kernel
theorem dX2_rankBy_13 : decode cX2_rankBy 13 = .ok (.invokevirtual 98, 3) := by decide +kernel
theorem dX2_rankBy_16 : decode cX2_rankBy 16 = .ok (.ifCond .eq 4, 3) := by decide +kernel
theorem dX2_rankBy_19 : decode cX2_rankBy 19 = .ok (.return_, 1) := by decide +kernel
theorem dX2_rankBy_20 : decode cX2_rankBy 20 = .ok (.aload_n 1, 1) := by decide +kernel
theorem dX2_rankBy_21 : decode cX2_rankBy 21 = .ok (.iconst 0, 1) := by decide +kernel
theorem dX2_rankBy_22 : decode cX2_rankBy 22 = .ok (.aload_n 0, 1) := by decide +kernel
theorem dX2_rankBy_23 : decode cX2_rankBy 23 = .ok (.getfield 30, 3) := by decide +kernel
theorem dX2_rankBy_26 : decode cX2_rankBy 26 = .ok (.iconst 0, 1) := by decide +kernel
theorem dX2_rankBy_27 : decode cX2_rankBy 27 = .ok (.bipush 7, 2) := by decide +kernel
theorem dX2_rankBy_29 : decode cX2_rankBy 29 = .ok (.invokestatic 102, 3) := by decide +kernel
theorem dX2_rankBy_32 : decode cX2_rankBy 32 = .ok (.aload_n 0, 1) := by decide +kernel
theorem dX2_rankBy_33 : decode cX2_rankBy 33 = .ok (.iconst 1, 1) := by decide +kernel
theorem dX2_rankBy_34 : decode cX2_rankBy 34 = .ok (.putfield 44, 3) := by decide +kernel
theorem dX2_rankBy_37 : decode cX2_rankBy 37 = .ok (.iconst 0, 1) := by decide +kernel
theorem dX2_rankBy_38 : decode cX2_rankBy 38 = .ok (.istore_n 2, 1) := by decide +kernel
theorem dX2_rankBy_39 : decode cX2_rankBy 39 = .ok (.iload_n 2, 1) := by decide +kernel
theorem dX2_rankBy_40 : decode cX2_rankBy 40 = .ok (.sipush 192, 3) := by decide +kernel
theorem dX2_rankBy_43 : decode cX2_rankBy 43 = .ok (.if_icmp .ge 17, 3) := by decide +kernel
theorem dX2_rankBy_46 : decode cX2_rankBy 46 = .ok (.aload_n 0, 1) := by decide +kernel
theorem dX2_rankBy_47 : decode cX2_rankBy 47 = .ok (.getfield 27, 3) := by decide +kernel
theorem dX2_rankBy_50 : decode cX2_rankBy 50 = .ok (.iload_n 2, 1) := by decide +kernel
theorem dX2_rankBy_51 : decode cX2_rankBy 51 = .ok (.ldc 108, 2) := by decide +kernel
theorem dX2_rankBy_53 : decode cX2_rankBy 53 = .ok (.iastore, 1) := by decide +kernel
theorem dX2_rankBy_54 : decode cX2_rankBy 54 = .ok (.iinc 2 1, 3) := by decide +kernel
theorem dX2_rankBy_57 : decode cX2_rankBy 57 = .ok (.goto (-18), 3) := by decide +kernel
theorem dX2_rankBy_60 : decode cX2_rankBy 60 = .ok (.aload_n 0, 1) := by decide +kernel
theorem dX2_rankBy_61 : decode cX2_rankBy 61 = .ok (.getfield 27, 3) := by decide +kernel
theorem dX2_rankBy_64 : decode cX2_rankBy 64 = .ok (.iconst 0, 1) := by decide +kernel
theorem dX2_rankBy_65 : decode cX2_rankBy 65 = .ok (.iconst 0, 1) := by decide +kernel
theorem dX2_rankBy_66 : decode cX2_rankBy 66 = .ok (.iastore, 1) := by decide +kernel
theorem dX2_rankBy_67 : decode cX2_rankBy 67 = .ok (.iconst 1, 1) := by decide +kernel
theorem dX2_rankBy_68 : decode cX2_rankBy 68 = .ok (.istore_n 2, 1) := by decide +kernel
theorem dX2_rankBy_69 : decode cX2_rankBy 69 = .ok (.iconst 0, 1) := by decide +kernel
theorem dX2_rankBy_70 : decode cX2_rankBy 70 = .ok (.istore_n 3, 1) := by decide +kernel
theorem dX2_rankBy_71 : decode cX2_rankBy 71 = .ok (.iload_n 3, 1) := by decide +kernel
theorem dX2_rankBy_72 : decode cX2_rankBy 72 = .ok (.sipush 192, 3) := by decide +kernel
theorem dX2_rankBy_75 : decode cX2_rankBy 75 = .ok (.if_icmp .ge 18, 3) := by decide +kernel
theorem dX2_rankBy_78 : decode cX2_rankBy 78 = .ok (.iload_n 2, 1) := by decide +kernel
theorem dX2_rankBy_79 : decode cX2_rankBy 79 = .ok (.ifCond .eq 14, 3) := by decide +kernel
theorem dX2_rankBy_82 : decode cX2_rankBy 82 = .ok (.aload_n 0, 1) := by decide +kernel
theorem dX2_rankBy_83 : decode cX2_rankBy 83 = .ok (.invokevirtual 109, 3) := by decide +kernel
theorem dX2_rankBy_86 : decode cX2_rankBy 86 = .ok (.istore_n 2, 1) := by decide +kernel
theorem dX2_rankBy_87 : decode cX2_rankBy 87 = .ok (.iinc 3 1, 3) := by decide +kernel
theorem dX2_rankBy_90 : decode cX2_rankBy 90 = .ok (.goto (-19), 3) := by decide +kernel
theorem dX2_rankBy_93 : decode cX2_rankBy 93 = .ok (.return_, 1) := by decide +kernel
theorem dX2_isRankedBy_0 : decode cX2_isRankedBy 0 = .ok (.getstatic 63, 3) := by decide +kernel
theorem dX2_isRankedBy_3 : decode cX2_isRankedBy 3 = .ok (.astore_n 2, 1) := by decide +kernel
theorem dX2_isRankedBy_4 : decode cX2_isRankedBy 4 = .ok (.aload_n 2, 1) := by decide +kernel
theorem dX2_isRankedBy_5 : decode cX2_isRankedBy 5 = .ok (.arraylength, 1) := by decide +kernel
theorem dX2_isRankedBy_6 : decode cX2_isRankedBy 6 = .ok (.istore_n 3, 1) := by decide +kernel
theorem dX2_isRankedBy_7 : decode cX2_isRankedBy 7 = .ok (.iconst 0, 1) := by decide +kernel
theorem dX2_isRankedBy_8 : decode cX2_isRankedBy 8 = .ok (.istore 4, 2) := by decide +kernel
theorem dX2_isRankedBy_10 : decode cX2_isRankedBy 10 = .ok (.iload 4, 2) := by decide +kernel
theorem dX2_isRankedBy_12 : decode cX2_isRankedBy 12 = .ok (.iload_n 3, 1) := by decide +kernel
theorem dX2_isRankedBy_13 : decode cX2_isRankedBy 13 = .ok (.if_icmp .ge 31, 3) := by decide +kernel
theorem dX2_isRankedBy_16 : decode cX2_isRankedBy 16 = .ok (.aload_n 2, 1) := by decide +kernel
theorem dX2_isRankedBy_17 : decode cX2_isRankedBy 17 = .ok (.iload 4, 2) := by decide +kernel
theorem dX2_isRankedBy_19 : decode cX2_isRankedBy 19 = .ok (.iaload, 1) := by decide +kernel
theorem dX2_isRankedBy_20 : decode cX2_isRankedBy 20 = .ok (.istore 5, 2) := by decide +kernel
theorem dX2_isRankedBy_22 : decode cX2_isRankedBy 22 = .ok (.aload_n 0, 1) := by decide +kernel
theorem dX2_isRankedBy_23 : decode cX2_isRankedBy 23 = .ok (.getfield 30, 3) := by decide +kernel
theorem dX2_isRankedBy_26 : decode cX2_isRankedBy 26 = .ok (.iload 5, 2) := by decide +kernel
theorem dX2_isRankedBy_28 : decode cX2_isRankedBy 28 = .ok (.iaload, 1) := by decide +kernel
theorem dX2_isRankedBy_29 : decode cX2_isRankedBy 29 = .ok (.aload_n 1, 1) := by decide +kernel
theorem dX2_isRankedBy_30 : decode cX2_isRankedBy 30 = .ok (.iload 5, 2) := by decide +kernel
theorem dX2_isRankedBy_32 : decode cX2_isRankedBy 32 = .ok (.iaload, 1) := by decide +kernel
theorem dX2_isRankedBy_33 : decode cX2_isRankedBy 33 = .ok (.if_icmp .eq 5, 3) := by decide +kernel
theorem dX2_isRankedBy_36 : decode cX2_isRankedBy 36 = .ok (.iconst 0, 1) := by decide +kernel
theorem dX2_isRankedBy_37 : decode cX2_isRankedBy 37 = .ok (.ireturn, 1) := by decide +kernel
theorem dX2_isRankedBy_38 : decode cX2_isRankedBy 38 = .ok (.iinc 4 1, 3) := by decide +kernel
theorem dX2_isRankedBy_41 : decode cX2_isRankedBy 41 = .ok (.goto (-31), 3) := by decide +kernel
theorem dX2_isRankedBy_44 : decode cX2_isRankedBy 44 = .ok (.iconst 1, 1) := by decide +kernel
theorem dX2_isRankedBy_45 : decode cX2_isRankedBy 45 = .ok (.ireturn, 1) := by decide +kernel
theorem dX2_improveRanks_0 : decode cX2_improveRanks 0 = .ok (.iconst 0, 1) := by decide +kernel
theorem dX2_improveRanks_1 : decode cX2_improveRanks 1 = .ok (.istore_n 1, 1) := by decide +kernel
theorem dX2_improveRanks_2 : decode cX2_improveRanks 2 = .ok (.iconst 0, 1) := by decide +kernel
theorem dX2_improveRanks_3 : decode cX2_improveRanks 3 = .ok (.istore_n 2, 1) := by decide +kernel
theorem dX2_improveRanks_4 : decode cX2_improveRanks 4 = .ok (.iload_n 2, 1) := by decide +kernel
theorem dX2_improveRanks_5 : decode cX2_improveRanks 5 = .ok (.sipush 192, 3) := by decide +kernel
theorem dX2_improveRanks_8 : decode cX2_improveRanks 8 = .ok (.if_icmp .ge 91, 3) := by decide +kernel
theorem dX2_improveRanks_11 : decode cX2_improveRanks 11 = .ok (.getstatic 63, 3) := by decide +kernel
theorem dX2_improveRanks_14 : decode cX2_improveRanks 14 = .ok (.astore_n 3, 1) := by decide +kernel
theorem dX2_improveRanks_15 : decode cX2_improveRanks 15 = .ok (.aload_n 3, 1) := by decide +kernel
theorem dX2_improveRanks_16 : decode cX2_improveRanks 16 = .ok (.arraylength, 1) := by decide +kernel
theorem dX2_improveRanks_17 : decode cX2_improveRanks 17 = .ok (.istore 4, 2) := by decide +kernel
theorem dX2_improveRanks_19 : decode cX2_improveRanks 19 = .ok (.iconst 0, 1) := by decide +kernel
theorem dX2_improveRanks_20 : decode cX2_improveRanks 20 = .ok (.istore 5, 2) := by decide +kernel
theorem dX2_improveRanks_22 : decode cX2_improveRanks 22 = .ok (.iload 5, 2) := by decide +kernel
theorem dX2_improveRanks_24 : decode cX2_improveRanks 24 = .ok (.iload 4, 2) := by decide +kernel
theorem dX2_improveRanks_26 : decode cX2_improveRanks 26 = .ok (.if_icmp .ge 67, 3) := by decide +kernel
theorem dX2_improveRanks_29 : decode cX2_improveRanks 29 = .ok (.aload_n 3, 1) := by decide +kernel
theorem dX2_improveRanks_30 : decode cX2_improveRanks 30 = .ok (.iload 5, 2) := by decide +kernel
theorem dX2_improveRanks_32 : decode cX2_improveRanks 32 = .ok (.iaload, 1) := by decide +kernel
theorem dX2_improveRanks_33 : decode cX2_improveRanks 33 = .ok (.istore 6, 2) := by decide +kernel
theorem dX2_improveRanks_35 : decode cX2_improveRanks 35 = .ok (.aload_n 0, 1) := by decide +kernel
theorem dX2_improveRanks_36 : decode cX2_improveRanks 36 = .ok (.getfield 15, 3) := by decide +kernel
theorem dX2_improveRanks_39 : decode cX2_improveRanks 39 = .ok (.iload_n 2, 1) := by decide +kernel
theorem dX2_improveRanks_40 : decode cX2_improveRanks 40 = .ok (.bipush 7, 2) := by decide +kernel
theorem dX2_improveRanks_42 : decode cX2_improveRanks 42 = .ok (.imul, 1) := by decide +kernel
theorem dX2_improveRanks_43 : decode cX2_improveRanks 43 = .ok (.iload 6, 2) := by decide +kernel
theorem dX2_improveRanks_45 : decode cX2_improveRanks 45 = .ok (.iadd, 1) := by decide +kernel
theorem dX2_improveRanks_46 : decode cX2_improveRanks 46 = .ok (.iaload, 1) := by decide +kernel
theorem dX2_improveRanks_47 : decode cX2_improveRanks 47 = .ok (.istore 7, 2) := by decide +kernel
theorem dX2_improveRanks_49 : decode cX2_improveRanks 49 = .ok (.aload_n 0, 1) := by decide +kernel
theorem dX2_improveRanks_50 : decode cX2_improveRanks 50 = .ok (.getfield 27, 3) := by decide +kernel
theorem dX2_improveRanks_53 : decode cX2_improveRanks 53 = .ok (.iload_n 2, 1) := by decide +kernel
theorem dX2_improveRanks_54 : decode cX2_improveRanks 54 = .ok (.iaload, 1) := by decide +kernel
theorem dX2_improveRanks_55 : decode cX2_improveRanks 55 = .ok (.aload_n 0, 1) := by decide +kernel
theorem dX2_improveRanks_56 : decode cX2_improveRanks 56 = .ok (.iload 6, 2) := by decide +kernel
theorem dX2_improveRanks_58 : decode cX2_improveRanks 58 = .ok (.invokevirtual 113, 3) := by decide +kernel
theorem dX2_improveRanks_61 : decode cX2_improveRanks 61 = .ok (.iadd, 1) := by decide +kernel
theorem dX2_improveRanks_62 : decode cX2_improveRanks 62 = .ok (.istore 8, 2) := by decide +kernel
theorem dX2_improveRanks_64 : decode cX2_improveRanks 64 = .ok (.iload 8, 2) := by decide +kernel
theorem dX2_improveRanks_66 : decode cX2_improveRanks 66 = .ok (.aload_n 0, 1) := by decide +kernel
theorem dX2_improveRanks_67 : decode cX2_improveRanks 67 = .ok (.getfield 27, 3) := by decide +kernel
theorem dX2_improveRanks_70 : decode cX2_improveRanks 70 = .ok (.iload 7, 2) := by decide +kernel
theorem dX2_improveRanks_72 : decode cX2_improveRanks 72 = .ok (.iaload, 1) := by decide +kernel
theorem dX2_improveRanks_73 : decode cX2_improveRanks 73 = .ok (.if_icmp .ge 14, 3) := by decide +kernel
theorem dX2_improveRanks_76 : decode cX2_improveRanks 76 = .ok (.aload_n 0, 1) := by decide +kernel
theorem dX2_improveRanks_77 : decode cX2_improveRanks 77 = .ok (.getfield 27, 3) := by decide +kernel
theorem dX2_improveRanks_80 : decode cX2_improveRanks 80 = .ok (.iload 7, 2) := by decide +kernel
theorem dX2_improveRanks_82 : decode cX2_improveRanks 82 = .ok (.iload 8, 2) := by decide +kernel
theorem dX2_improveRanks_84 : decode cX2_improveRanks 84 = .ok (.iastore, 1) := by decide +kernel
theorem dX2_improveRanks_85 : decode cX2_improveRanks 85 = .ok (.iconst 1, 1) := by decide +kernel
theorem dX2_improveRanks_86 : decode cX2_improveRanks 86 = .ok (.istore_n 1, 1) := by decide +kernel
theorem dX2_improveRanks_87 : decode cX2_improveRanks 87 = .ok (.iinc 5 1, 3) := by decide +kernel
theorem dX2_improveRanks_90 : decode cX2_improveRanks 90 = .ok (.goto (-68), 3) := by decide +kernel
theorem dX2_improveRanks_93 : decode cX2_improveRanks 93 = .ok (.iinc 2 1, 3) := by decide +kernel
theorem dX2_improveRanks_96 : decode cX2_improveRanks 96 = .ok (.goto (-92), 3) := by decide +kernel
theorem dX2_improveRanks_99 : decode cX2_improveRanks 99 = .ok (.iload_n 1, 1) := by decide +kernel
theorem dX2_improveRanks_100 : decode cX2_improveRanks 100 = .ok (.ireturn, 1) := by decide +kernel
theorem dX2_weightOf_0 : decode cX2_weightOf 0 = .ok (.aload_n 0, 1) := by decide +kernel
theorem dX2_weightOf_1 : decode cX2_weightOf 1 = .ok (.getfield 30, 3) := by decide +kernel
theorem dX2_weightOf_4 : decode cX2_weightOf 4 = .ok (.iload_n 1, 1) := by decide +kernel
theorem dX2_weightOf_5 : decode cX2_weightOf 5 = .ok (.iaload, 1) := by decide +kernel
theorem dX2_weightOf_6 : decode cX2_weightOf 6 = .ok (.sipush 1024, 3) := by decide +kernel
theorem dX2_weightOf_9 : decode cX2_weightOf 9 = .ok (.imul, 1) := by decide +kernel
theorem dX2_weightOf_10 : decode cX2_weightOf 10 = .ok (.iconst 1, 1) := by decide +kernel
theorem dX2_weightOf_11 : decode cX2_weightOf 11 = .ok (.iadd, 1) := by decide +kernel
theorem dX2_weightOf_12 : decode cX2_weightOf 12 = .ok (.ireturn, 1) := by decide +kernel
theorem dX2_costOf_0 : decode cX2_costOf 0 = .ok (.aload_n 0, 1) := by decide +kernel
theorem dX2_costOf_1 : decode cX2_costOf 1 = .ok (.getfield 27, 3) := by decide +kernel
theorem dX2_costOf_4 : decode cX2_costOf 4 = .ok (.iload_n 1, 1) := by decide +kernel
theorem dX2_costOf_5 : decode cX2_costOf 5 = .ok (.iaload, 1) := by decide +kernel
theorem dX2_costOf_6 : decode cX2_costOf 6 = .ok (.sipush 1024, 3) := by decide +kernel
theorem dX2_costOf_9 : decode cX2_costOf 9 = .ok (.idiv, 1) := by decide +kernel
theorem dX2_costOf_10 : decode cX2_costOf 10 = .ok (.ireturn, 1) := by decide +kernel
theorem dX2_lengthOf_0 : decode cX2_lengthOf 0 = .ok (.aload_n 0, 1) := by decide +kernel
theorem dX2_lengthOf_1 : decode cX2_lengthOf 1 = .ok (.getfield 27, 3) := by decide +kernel
theorem dX2_lengthOf_4 : decode cX2_lengthOf 4 = .ok (.iload_n 1, 1) := by decide +kernel
theorem dX2_lengthOf_5 : decode cX2_lengthOf 5 = .ok (.iaload, 1) := by decide +kernel
theorem dX2_lengthOf_6 : decode cX2_lengthOf 6 = .ok (.sipush 1024, 3) := by decide +kernel
theorem dX2_lengthOf_9 : decode cX2_lengthOf 9 = .ok (.irem, 1) := by decide +kernel
theorem dX2_lengthOf_10 : decode cX2_lengthOf 10 = .ok (.ireturn, 1) := by decide +kernel
theorem dX2_gateOf_0 : decode cX2_gateOf 0 = .ok (.iload_n 2, 1) := by decide +kernel
theorem dX2_gateOf_1 : decode cX2_gateOf 1 = .ok (.aload_n 0, 1) := by decide +kernel
theorem dX2_gateOf_2 : decode cX2_gateOf 2 = .ok (.iload_n 1, 1) := by decide +kernel
theorem dX2_gateOf_3 : decode cX2_gateOf 3 = .ok (.invokevirtual 116, 3) := by decide +kernel
theorem dX2_gateOf_6 : decode cX2_gateOf 6 = .ok (.if_icmp .lt 6, 3) := by decide +kernel
theorem dX2_gateOf_9 : decode cX2_gateOf 9 = .ok (.bipush (-2), 2) := by decide +kernel
theorem dX2_gateOf_11 : decode cX2_gateOf 11 = .ok (.ireturn, 1) := by decide +kernel
theorem dX2_gateOf_12 : decode cX2_gateOf 12 = .ok (.iload_n 1, 1) := by decide +kernel
theorem dX2_gateOf_13 : decode cX2_gateOf 13 = .ok (.istore_n 3, 1) := by decide +kernel
theorem dX2_gateOf_14 : decode cX2_gateOf 14 = .ok (.iconst 0, 1) := by decide +kernel
theorem dX2_gateOf_15 : decode cX2_gateOf 15 = .ok (.istore 4, 2) := by decide +kernel
theorem dX2_gateOf_17 : decode cX2_gateOf 17 = .ok (.iload 4, 2) := by decide +kernel
theorem dX2_gateOf_19 : decode cX2_gateOf 19 = .ok (.iload_n 2, 1) := by decide +kernel
theorem dX2_gateOf_20 : decode cX2_gateOf 20 = .ok (.if_icmp .ge 15, 3) := by decide +kernel
theorem dX2_gateOf_23 : decode cX2_gateOf 23 = .ok (.aload_n 0, 1) := by decide +kernel
theorem dX2_gateOf_24 : decode cX2_gateOf 24 = .ok (.iload_n 3, 1) := by decide +kernel
theorem dX2_gateOf_25 : decode cX2_gateOf 25 = .ok (.invokevirtual 119, 3) := by decide +kernel
theorem dX2_gateOf_28 : decode cX2_gateOf 28 = .ok (.istore_n 3, 1) := by decide +kernel
theorem dX2_gateOf_29 : decode cX2_gateOf 29 = .ok (.iinc 4 1, 3) := by decide +kernel
theorem dX2_gateOf_32 : decode cX2_gateOf 32 = .ok (.goto (-15), 3) := by decide +kernel
theorem dX2_gateOf_35 : decode cX2_gateOf 35 = .ok (.aload_n 0, 1) := by decide +kernel
theorem dX2_gateOf_36 : decode cX2_gateOf 36 = .ok (.iload_n 3, 1) := by decide +kernel
theorem dX2_gateOf_37 : decode cX2_gateOf 37 = .ok (.invokevirtual 122, 3) := by decide +kernel
theorem dX2_gateOf_40 : decode cX2_gateOf 40 = .ok (.ireturn, 1) := by decide +kernel
theorem dX2_restOf_0 : decode cX2_restOf 0 = .ok (.aload_n 0, 1) := by decide +kernel
theorem dX2_restOf_1 : decode cX2_restOf 1 = .ok (.iload_n 1, 1) := by decide +kernel
theorem dX2_restOf_2 : decode cX2_restOf 2 = .ok (.invokevirtual 122, 3) := by decide +kernel
theorem dX2_restOf_5 : decode cX2_restOf 5 = .ok (.istore_n 2, 1) := by decide +kernel
theorem dX2_restOf_6 : decode cX2_restOf 6 = .ok (.iload_n 2, 1) := by decide +kernel
theorem dX2_restOf_7 : decode cX2_restOf 7 = .ok (.ifCond .ge 7, 3) := by decide +kernel
theorem dX2_restOf_10 : decode cX2_restOf 10 = .ok (.iload_n 1, 1) := by decide +kernel
theorem dX2_restOf_11 : decode cX2_restOf 11 = .ok (.goto 14, 3) := by decide +kernel
theorem dX2_restOf_14 : decode cX2_restOf 14 = .ok (.aload_n 0, 1) := by decide +kernel
theorem dX2_restOf_15 : decode cX2_restOf 15 = .ok (.getfield 18, 3) := by decide +kernel
theorem dX2_restOf_18 : decode cX2_restOf 18 = .ok (.iload_n 1, 1) := by decide +kernel
theorem dX2_restOf_19 : decode cX2_restOf 19 = .ok (.bipush 7, 2) := by decide +kernel
theorem dX2_restOf_21 : decode cX2_restOf 21 = .ok (.imul, 1) := by decide +kernel
theorem dX2_restOf_22 : decode cX2_restOf 22 = .ok (.iload_n 2, 1) := by decide +kernel
theorem dX2_restOf_23 : decode cX2_restOf 23 = .ok (.iadd, 1) := by decide +kernel
theorem dX2_restOf_24 : decode cX2_restOf 24 = .ok (.iaload, 1) := by decide +kernel
theorem dX2_restOf_25 : decode cX2_restOf 25 = .ok (.ireturn, 1) := by decide +kernel
theorem dX2_firstGateOf_0 : decode cX2_firstGateOf 0 = .ok (.getstatic 63, 3) := by decide +kernel
theorem dX2_firstGateOf_3 : decode cX2_firstGateOf 3 = .ok (.astore_n 2, 1) := by decide +kernel
theorem dX2_firstGateOf_4 : decode cX2_firstGateOf 4 = .ok (.aload_n 2, 1) := by decide +kernel
theorem dX2_firstGateOf_5 : decode cX2_firstGateOf 5 = .ok (.arraylength, 1) := by decide +kernel
theorem dX2_firstGateOf_6 : decode cX2_firstGateOf 6 = .ok (.istore_n 3, 1) := by decide +kernel
theorem dX2_firstGateOf_7 : decode cX2_firstGateOf 7 = .ok (.iconst 0, 1) := by decide +kernel
theorem dX2_firstGateOf_8 : decode cX2_firstGateOf 8 = .ok (.istore 4, 2) := by decide +kernel
theorem dX2_firstGateOf_10 : decode cX2_firstGateOf 10 = .ok (.iload 4, 2) := by decide +kernel
theorem dX2_firstGateOf_12 : decode cX2_firstGateOf 12 = .ok (.iload_n 3, 1) := by decide +kernel
theorem dX2_firstGateOf_13 : decode cX2_firstGateOf 13 = .ok (.if_icmp .ge 51, 3) := by decide +kernel
theorem dX2_firstGateOf_16 : decode cX2_firstGateOf 16 = .ok (.aload_n 2, 1) := by decide +kernel
theorem dX2_firstGateOf_17 : decode cX2_firstGateOf 17 = .ok (.iload 4, 2) := by decide +kernel
theorem dX2_firstGateOf_19 : decode cX2_firstGateOf 19 = .ok (.iaload, 1) := by decide +kernel
theorem dX2_firstGateOf_20 : decode cX2_firstGateOf 20 = .ok (.istore 5, 2) := by decide +kernel
theorem dX2_firstGateOf_22 : decode cX2_firstGateOf 22 = .ok (.aload_n 0, 1) := by decide +kernel
theorem dX2_firstGateOf_23 : decode cX2_firstGateOf 23 = .ok (.getfield 27, 3) := by decide +kernel
theorem dX2_firstGateOf_26 : decode cX2_firstGateOf 26 = .ok (.aload_n 0, 1) := by decide +kernel
theorem dX2_firstGateOf_27 : decode cX2_firstGateOf 27 = .ok (.getfield 18, 3) := by decide +kernel
theorem dX2_firstGateOf_30 : decode cX2_firstGateOf 30 = .ok (.iload_n 1, 1) := by decide +kernel
theorem dX2_firstGateOf_31 : decode cX2_firstGateOf 31 = .ok (.bipush 7, 2) := by decide +kernel
theorem dX2_firstGateOf_33 : decode cX2_firstGateOf 33 = .ok (.imul, 1) := by decide +kernel
theorem dX2_firstGateOf_34 : decode cX2_firstGateOf 34 = .ok (.iload 5, 2) := by decide +kernel
theorem dX2_firstGateOf_36 : decode cX2_firstGateOf 36 = .ok (.iadd, 1) := by decide +kernel
theorem dX2_firstGateOf_37 : decode cX2_firstGateOf 37 = .ok (.iaload, 1) := by decide +kernel
theorem dX2_firstGateOf_38 : decode cX2_firstGateOf 38 = .ok (.iaload, 1) := by decide +kernel
theorem dX2_firstGateOf_39 : decode cX2_firstGateOf 39 = .ok (.aload_n 0, 1) := by decide +kernel
theorem dX2_firstGateOf_40 : decode cX2_firstGateOf 40 = .ok (.iload 5, 2) := by decide +kernel
theorem dX2_firstGateOf_42 : decode cX2_firstGateOf 42 = .ok (.invokevirtual 113, 3) := by decide +kernel
theorem dX2_firstGateOf_45 : decode cX2_firstGateOf 45 = .ok (.iadd, 1) := by decide +kernel
theorem dX2_firstGateOf_46 : decode cX2_firstGateOf 46 = .ok (.aload_n 0, 1) := by decide +kernel
theorem dX2_firstGateOf_47 : decode cX2_firstGateOf 47 = .ok (.getfield 27, 3) := by decide +kernel
theorem dX2_firstGateOf_50 : decode cX2_firstGateOf 50 = .ok (.iload_n 1, 1) := by decide +kernel
theorem dX2_firstGateOf_51 : decode cX2_firstGateOf 51 = .ok (.iaload, 1) := by decide +kernel
theorem dX2_firstGateOf_52 : decode cX2_firstGateOf 52 = .ok (.if_icmp .ne 6, 3) := by decide +kernel
theorem dX2_firstGateOf_55 : decode cX2_firstGateOf 55 = .ok (.iload 5, 2) := by decide +kernel
theorem dX2_firstGateOf_57 : decode cX2_firstGateOf 57 = .ok (.ireturn, 1) := by decide +kernel
theorem dX2_firstGateOf_58 : decode cX2_firstGateOf 58 = .ok (.iinc 4 1, 3) := by decide +kernel
theorem dX2_firstGateOf_61 : decode cX2_firstGateOf 61 = .ok (.goto (-51), 3) := by decide +kernel
theorem dX2_firstGateOf_64 : decode cX2_firstGateOf 64 = .ok (.bipush (-2), 2) := by decide +kernel
theorem dX2_firstGateOf_66 : decode cX2_firstGateOf 66 = .ok (.ireturn, 1) := by decide +kernel
theorem dX3_init_0 : decode cX3_init 0 = .ok (.aload_n 0, 1) := by decide +kernel
theorem dX3_init_1 : decode cX3_init 1 = .ok (.invokespecial 3, 3) := by decide +kernel
theorem dX3_init_4 : decode cX3_init 4 = .ok (.aload_n 0, 1) := by decide +kernel
theorem dX3_init_5 : decode cX3_init 5 = .ok (.bipush 8, 2) := by decide +kernel
theorem dX3_init_7 : decode cX3_init 7 = .ok (.anewarray 9, 3) := by decide +kernel
theorem dX3_init_10 : decode cX3_init 10 = .ok (.putfield 11, 3) := by decide +kernel
theorem dX3_init_13 : decode cX3_init 13 = .ok (.aload_n 0, 1) := by decide +kernel
theorem dX3_init_14 : decode cX3_init 14 = .ok (.bipush 8, 2) := by decide +kernel
theorem dX3_init_16 : decode cX3_init 16 = .ok (.newarray .int, 2) := by decide +kernel
theorem dX3_init_18 : decode cX3_init 18 = .ok (.putfield 17, 3) := by decide +kernel
theorem dX3_init_21 : decode cX3_init 21 = .ok (.aload_n 0, 1) := by decide +kernel
theorem dX3_init_22 : decode cX3_init 22 = .ok (.iconst 0, 1) := by decide +kernel
theorem dX3_init_23 : decode cX3_init 23 = .ok (.putfield 21, 3) := by decide +kernel
theorem dX3_init_26 : decode cX3_init 26 = .ok (.aload_n 0, 1) := by decide +kernel
theorem dX3_init_27 : decode cX3_init 27 = .ok (.iconst 0, 1) := by decide +kernel
theorem dX3_init_28 : decode cX3_init 28 = .ok (.putfield 25, 3) := by decide +kernel
theorem dX3_init_31 : decode cX3_init 31 = .ok (.iconst 0, 1) := by decide +kernel
theorem dX3_init_32 : decode cX3_init 32 = .ok (.istore_n 1, 1) := by decide +kernel
theorem dX3_init_33 : decode cX3_init 33 = .ok (.iload_n 1, 1) := by decide +kernel
theorem dX3_init_34 : decode cX3_init 34 = .ok (.bipush 8, 2) := by decide +kernel
theorem dX3_init_36 : decode cX3_init 36 = .ok (.if_icmp .ge 22, 3) := by decide +kernel
theorem dX3_init_39 : decode cX3_init 39 = .ok (.aload_n 0, 1) := by decide +kernel
theorem dX3_init_40 : decode cX3_init 40 = .ok (.getfield 11, 3) := by decide +kernel
theorem dX3_init_43 : decode cX3_init 43 = .ok (.iload_n 1, 1) := by decide +kernel
theorem dX3_init_44 : decode cX3_init 44 = .ok (.new 9, 3) := by decide +kernel
theorem dX3_init_47 : decode cX3_init 47 = .ok (.dup, 1) := by decide +kernel
theorem dX3_init_48 : decode cX3_init 48 = .ok (.invokespecial 28, 3) := by decide +kernel
theorem dX3_init_51 : decode cX3_init 51 = .ok (.aastore, 1) := by decide +kernel
theorem dX3_init_52 : decode cX3_init 52 = .ok (.iinc 1 1, 3) := by decide +kernel
theorem dX3_init_55 : decode cX3_init 55 = .ok (.goto (-22), 3) := by decide +kernel
theorem dX3_init_58 : decode cX3_init 58 = .ok (.return_, 1) := by decide +kernel
theorem dX3_keep_0 : decode cX3_keep 0 = .ok (.aload_n 0, 1) := by decide +kernel
theorem dX3_keep_1 : decode cX3_keep 1 = .ok (.getfield 11, 3) := by decide +kernel
theorem dX3_keep_4 : decode cX3_keep 4 = .ok (.aload_n 0, 1) := by decide +kernel
theorem dX3_keep_5 : decode cX3_keep 5 = .ok (.getfield 21, 3) := by decide +kernel
theorem dX3_keep_8 : decode cX3_keep 8 = .ok (.aaload, 1) := by decide +kernel
theorem dX3_keep_9 : decode cX3_keep 9 = .ok (.aload_n 2, 1) := by decide +kernel
theorem dX3_keep_10 : decode cX3_keep 10 = .ok (.invokevirtual 29, 3) := by decide +kernel
theorem dX3_keep_13 : decode cX3_keep 13 = .ok (.aload_n 0, 1) := by decide +kernel
theorem dX3_keep_14 : decode cX3_keep 14 = .ok (.getfield 17, 3) := by decide +kernel
theorem dX3_keep_17 : decode cX3_keep 17 = .ok (.aload_n 0, 1) := by decide +kernel
theorem dX3_keep_18 : decode cX3_keep 18 = .ok (.getfield 21, 3) := by decide +kernel
theorem dX3_keep_21 : decode cX3_keep 21 = .ok (.iload_n 1, 1) := by decide +kernel
theorem dX3_keep_22 : decode cX3_keep 22 = .ok (.iastore, 1) := by decide +kernel
theorem dX3_keep_23 : decode cX3_keep 23 = .ok (.aload_n 0, 1) := by decide +kernel
theorem dX3_keep_24 : decode cX3_keep 24 = .ok (.aload_n 0, 1) := by decide +kernel
theorem dX3_keep_25 : decode cX3_keep 25 = .ok (.getfield 21, 3) := by decide +kernel
theorem dX3_keep_28 : decode cX3_keep 28 = .ok (.iconst 1, 1) := by decide +kernel
theorem dX3_keep_29 : decode cX3_keep 29 = .ok (.iadd, 1) := by decide +kernel
theorem dX3_keep_30 : decode cX3_keep 30 = .ok (.bipush 8, 2) := by decide +kernel
theorem dX3_keep_32 : decode cX3_keep 32 = .ok (.irem, 1) := by decide +kernel
theorem dX3_keep_33 : decode cX3_keep 33 = .ok (.putfield 21, 3) := by decide +kernel
theorem dX3_keep_36 : decode cX3_keep 36 = .ok (.aload_n 0, 1) := by decide +kernel
theorem dX3_keep_37 : decode cX3_keep 37 = .ok (.aload_n 0, 1) := by decide +kernel
theorem dX3_keep_38 : decode cX3_keep 38 = .ok (.getfield 25, 3) := by decide +kernel
theorem dX3_keep_41 : decode cX3_keep 41 = .ok (.iconst 1, 1) := by decide +kernel
theorem dX3_keep_42 : decode cX3_keep 42 = .ok (.iadd, 1) := by decide +kernel
theorem dX3_keep_43 : decode cX3_keep 43 = .ok (.bipush 8, 2) := by decide +kernel
theorem dX3_keep_45 : decode cX3_keep 45 = .ok (.invokestatic 33, 3) := by decide +kernel
theorem dX3_keep_48 : decode cX3_keep 48 = .ok (.putfield 25, 3) := by decide +kernel
theorem dX3_keep_51 : decode cX3_keep 51 = .ok (.return_, 1) := by decide +kernel
theorem dX3_giveBack_0 : decode cX3_giveBack 0 = .ok (.aload_n 0, 1) := by decide +kernel
theorem dX3_giveBack_1 : decode cX3_giveBack 1 = .ok (.getfield 25, 3) := by decide +kernel
theorem dX3_giveBack_4 : decode cX3_giveBack 4 = .ok (.ifCond .ne 4, 3) := by decide +kernel
theorem dX3_giveBack_7 : decode cX3_giveBack 7 = .ok (.return_, 1) := by decide +kernel
theorem dX3_giveBack_8 : decode cX3_giveBack 8 = .ok (.aload_n 0, 1) := by decide +kernel
theorem dX3_giveBack_9 : decode cX3_giveBack 9 = .ok (.aload_n 0, 1) := by decide +kernel
theorem dX3_giveBack_10 : decode cX3_giveBack 10 = .ok (.getfield 21, 3) := by decide +kernel
theorem dX3_giveBack_13 : decode cX3_giveBack 13 = .ok (.bipush 8, 2) := by decide +kernel
theorem dX3_giveBack_15 : decode cX3_giveBack 15 = .ok (.iadd, 1) := by decide +kernel
theorem dX3_giveBack_16 : decode cX3_giveBack 16 = .ok (.iconst 1, 1) := by decide +kernel
theorem dX3_giveBack_17 : decode cX3_giveBack 17 = .ok (.isub, 1) := by decide +kernel
theorem dX3_giveBack_18 : decode cX3_giveBack 18 = .ok (.bipush 8, 2) := by decide +kernel
theorem dX3_giveBack_20 : decode cX3_giveBack 20 = .ok (.irem, 1) := by decide +kernel
theorem dX3_giveBack_21 : decode cX3_giveBack 21 = .ok (.putfield 21, 3) := by decide +kernel
theorem dX3_giveBack_24 : decode cX3_giveBack 24 = .ok (.aload_n 0, 1) := by decide +kernel
theorem dX3_giveBack_25 : decode cX3_giveBack 25 = .ok (.dup, 1) := by decide +kernel
theorem dX3_giveBack_26 : decode cX3_giveBack 26 = .ok (.getfield 25, 3) := by decide +kernel
theorem dX3_giveBack_29 : decode cX3_giveBack 29 = .ok (.iconst 1, 1) := by decide +kernel
theorem dX3_giveBack_30 : decode cX3_giveBack 30 = .ok (.isub, 1) := by decide +kernel
theorem dX3_giveBack_31 : decode cX3_giveBack 31 = .ok (.putfield 25, 3) := by decide +kernel
theorem dX3_giveBack_34 : decode cX3_giveBack 34 = .ok (.aload_n 1, 1) := by decide +kernel
theorem dX3_giveBack_35 : decode cX3_giveBack 35 = .ok (.aload_n 0, 1) := by decide +kernel
theorem dX3_giveBack_36 : decode cX3_giveBack 36 = .ok (.getfield 17, 3) := by decide +kernel
theorem dX3_giveBack_39 : decode cX3_giveBack 39 = .ok (.aload_n 0, 1) := by decide +kernel
theorem dX3_giveBack_40 : decode cX3_giveBack 40 = .ok (.getfield 21, 3) := by decide +kernel
theorem dX3_giveBack_43 : decode cX3_giveBack 43 = .ok (.iaload, 1) := by decide +kernel
theorem dX3_giveBack_44 : decode cX3_giveBack 44 = .ok (.aaload, 1) := by decide +kernel
theorem dX3_giveBack_45 : decode cX3_giveBack 45 = .ok (.aload_n 0, 1) := by decide +kernel
theorem dX3_giveBack_46 : decode cX3_giveBack 46 = .ok (.getfield 11, 3) := by decide +kernel
theorem dX3_giveBack_49 : decode cX3_giveBack 49 = .ok (.aload_n 0, 1) := by decide +kernel
theorem dX3_giveBack_50 : decode cX3_giveBack 50 = .ok (.getfield 21, 3) := by decide +kernel
theorem dX3_giveBack_53 : decode cX3_giveBack 53 = .ok (.aaload, 1) := by decide +kernel
theorem dX3_giveBack_54 : decode cX3_giveBack 54 = .ok (.invokevirtual 29, 3) := by decide +kernel
theorem dX3_giveBack_57 : decode cX3_giveBack 57 = .ok (.return_, 1) := by decide +kernel
theorem dX4_init_0 : decode cX4_init 0 = .ok (.aload_n 0, 1) := by decide +kernel
theorem dX4_init_1 : decode cX4_init 1 = .ok (.invokespecial 3, 3) := by decide +kernel
theorem dX4_init_4 : decode cX4_init 4 = .ok (.aload_n 0, 1) := by decide +kernel
theorem dX4_init_5 : decode cX4_init 5 = .ok (.new 9, 3) := by decide +kernel
theorem dX4_init_8 : decode cX4_init 8 = .ok (.dup, 1) := by decide +kernel
theorem dX4_init_9 : decode cX4_init 9 = .ok (.invokespecial 11, 3) := by decide +kernel
theorem dX4_init_12 : decode cX4_init 12 = .ok (.putfield 12, 3) := by decide +kernel
theorem dX4_init_15 : decode cX4_init 15 = .ok (.aload_n 0, 1) := by decide +kernel
theorem dX4_init_16 : decode cX4_init 16 = .ok (.new 9, 3) := by decide +kernel
theorem dX4_init_19 : decode cX4_init 19 = .ok (.dup, 1) := by decide +kernel
theorem dX4_init_20 : decode cX4_init 20 = .ok (.invokespecial 11, 3) := by decide +kernel
theorem dX4_init_23 : decode cX4_init 23 = .ok (.putfield 18, 3) := by decide +kernel
theorem dX4_init_26 : decode cX4_init 26 = .ok (.aload_n 0, 1) := by decide +kernel
theorem dX4_init_27 : decode cX4_init 27 = .ok (.new 21, 3) := by decide +kernel
theorem dX4_init_30 : decode cX4_init 30 = .ok (.dup, 1) := by decide +kernel
theorem dX4_init_31 : decode cX4_init 31 = .ok (.invokespecial 23, 3) := by decide +kernel
theorem dX4_init_34 : decode cX4_init 34 = .ok (.putfield 24, 3) := by decide +kernel
theorem dX4_init_37 : decode cX4_init 37 = .ok (.return_, 1) := by decide +kernel
theorem dX4_form_0 : decode cX4_form 0 = .ok (.aload_n 3, 1) := by decide +kernel
theorem dX4_form_1 : decode cX4_form 1 = .ok (.iconst 0, 1) := by decide +kernel
theorem dX4_form_2 : decode cX4_form 2 = .ok (.putfield 28, 3) := by decide +kernel
theorem dX4_form_5 : decode cX4_form 5 = .ok (.aload_n 0, 1) := by decide +kernel
theorem dX4_form_6 : decode cX4_form 6 = .ok (.getfield 12, 3) := by decide +kernel
theorem dX4_form_9 : decode cX4_form 9 = .ok (.aload_n 1, 1) := by decide +kernel
theorem dX4_form_10 : decode cX4_form 10 = .ok (.invokevirtual 34, 3) := by decide +kernel
theorem dX4_form_13 : decode cX4_form 13 = .ok (.aload_n 0, 1) := by decide +kernel
theorem dX4_form_14 : decode cX4_form 14 = .ok (.getfield 24, 3) := by decide +kernel
theorem dX4_form_17 : decode cX4_form 17 = .ok (.aload_n 0, 1) := by decide +kernel
theorem dX4_form_18 : decode cX4_form 18 = .ok (.getfield 12, 3) := by decide +kernel
theorem dX4_form_21 : decode cX4_form 21 = .ok (.invokevirtual 38, 3) := by decide +kernel
theorem dX4_form_24 : decode cX4_form 24 = .ok (.aload_n 0, 1) := by decide +kernel
theorem dX4_form_25 : decode cX4_form 25 = .ok (.getfield 24, 3) := by decide +kernel
theorem dX4_form_28 : decode cX4_form 28 = .ok (.getfield 41, 3) := by decide +kernel
theorem dX4_form_31 : decode cX4_form 31 = .ok (.istore 4, 2) := by decide +kernel
theorem dX4_form_33 : decode cX4_form 33 = .ok (.iconst 0, 1) := by decide +kernel
theorem dX4_form_34 : decode cX4_form 34 = .ok (.istore 5, 2) := by decide +kernel
theorem dX4_form_36 : decode cX4_form 36 = .ok (.iload 5, 2) := by decide +kernel
theorem dX4_form_38 : decode cX4_form 38 = .ok (.bipush 60, 2) := by decide +kernel
theorem dX4_form_40 : decode cX4_form 40 = .ok (.if_icmp .ge 52, 3) := by decide +kernel
theorem dX4_form_43 : decode cX4_form 43 = .ok (.iload 4, 2) := by decide +kernel
theorem dX4_form_45 : decode cX4_form 45 = .ok (.ifCond .le 47, 3) := by decide +kernel
theorem dX4_form_48 : decode cX4_form 48 = .ok (.aload_n 0, 1) := by decide +kernel
theorem dX4_form_49 : decode cX4_form 49 = .ok (.iload 4, 2) := by decide +kernel
theorem dX4_form_51 : decode cX4_form 51 = .ok (.invokevirtual 44, 3) := by decide +kernel
theorem dX4_form_54 : decode cX4_form 54 = .ok (.istore 6, 2) := by decide +kernel
theorem dX4_form_56 : decode cX4_form 56 = .ok (.iload 6, 2) := by decide +kernel
theorem dX4_form_58 : decode cX4_form 58 = .ok (.ifCond .lt 12, 3) := by decide +kernel
theorem dX4_form_61 : decode cX4_form 61 = .ok (.aload_n 3, 1) := by decide +kernel
theorem dX4_form_62 : decode cX4_form 62 = .ok (.iload 6, 2) := by decide +kernel
theorem dX4_form_64 : decode cX4_form 64 = .ok (.invokestatic 48, 3) := by decide +kernel
theorem dX4_form_67 : decode cX4_form 67 = .ok (.ifCond .ne 5, 3) := by decide +kernel
theorem dX4_form_70 : decode cX4_form 70 = .ok (.iconst 0, 1) := by decide +kernel
theorem dX4_form_71 : decode cX4_form 71 = .ok (.ireturn, 1) := by decide +kernel
theorem dX4_form_72 : decode cX4_form 72 = .ok (.aload_n 0, 1) := by decide +kernel
theorem dX4_form_73 : decode cX4_form 73 = .ok (.getfield 12, 3) := by decide +kernel
theorem dX4_form_76 : decode cX4_form 76 = .ok (.aload_n 0, 1) := by decide +kernel
theorem dX4_form_77 : decode cX4_form 77 = .ok (.getfield 18, 3) := by decide +kernel
theorem dX4_form_80 : decode cX4_form 80 = .ok (.invokevirtual 34, 3) := by decide +kernel
theorem dX4_form_83 : decode cX4_form 83 = .ok (.iinc 4 (-1), 3) := by decide +kernel
theorem dX4_form_86 : decode cX4_form 86 = .ok (.iinc 5 1, 3) := by decide +kernel
theorem dX4_form_89 : decode cX4_form 89 = .ok (.goto (-53), 3) := by decide +kernel
theorem dX4_form_92 : decode cX4_form 92 = .ok (.iload 4, 2) := by decide +kernel
theorem dX4_form_94 : decode cX4_form 94 = .ok (.ifCond .ne 16, 3) := by decide +kernel
theorem dX4_form_97 : decode cX4_form 97 = .ok (.aload_n 0, 1) := by decide +kernel
theorem dX4_form_98 : decode cX4_form 98 = .ok (.aload_n 3, 1) := by decide +kernel
theorem dX4_form_99 : decode cX4_form 99 = .ok (.aload_n 2, 1) := by decide +kernel
theorem dX4_form_100 : decode cX4_form 100 = .ok (.invokevirtual 52, 3) := by decide +kernel
theorem dX4_form_103 : decode cX4_form 103 = .ok (.ifCond .eq 7, 3) := by decide +kernel
theorem dX4_form_106 : decode cX4_form 106 = .ok (.iconst 1, 1) := by decide +kernel
theorem dX4_form_107 : decode cX4_form 107 = .ok (.goto 4, 3) := by decide +kernel
theorem dX4_form_110 : decode cX4_form 110 = .ok (.iconst 0, 1) := by decide +kernel
theorem dX4_form_111 : decode cX4_form 111 = .ok (.ireturn, 1) := by decide +kernel
theorem dX4_findSyllable_0 : decode cX4_findSyllable 0 = .ok (.iconst 0, 1) := by decide +kernel
theorem dX4_findSyllable_1 : decode cX4_findSyllable 1 = .ok (.istore_n 2, 1) := by decide +kernel
theorem dX4_findSyllable_2 : decode cX4_findSyllable 2 = .ok (.iload_n 2, 1) := by decide +kernel
theorem dX4_findSyllable_3 : decode cX4_findSyllable 3 = .ok (.iconst 3, 1) := by decide +kernel
theorem dX4_findSyllable_4 : decode cX4_findSyllable 4 = .ok (.if_icmp .ge 51, 3) := by decide +kernel
theorem dX4_findSyllable_7 : decode cX4_findSyllable 7 = .ok (.aload_n 0, 1) := by decide +kernel
theorem dX4_findSyllable_8 : decode cX4_findSyllable 8 = .ok (.getfield 18, 3) := by decide +kernel
theorem dX4_findSyllable_11 : decode cX4_findSyllable 11 = .ok (.aload_n 0, 1) := by decide +kernel
theorem dX4_findSyllable_12 : decode cX4_findSyllable 12 = .ok (.getfield 12, 3) := by decide +kernel
theorem dX4_findSyllable_15 : decode cX4_findSyllable 15 = .ok (.invokevirtual 34, 3) := by decide +kernel
theorem dX4_findSyllable_18 : decode cX4_findSyllable 18 = .ok (.aload_n 0, 1) := by decide +kernel
theorem dX4_findSyllable_19 : decode cX4_findSyllable 19 = .ok (.iload_n 2, 1) := by decide +kernel
theorem dX4_findSyllable_20 : decode cX4_findSyllable 20 = .ok (.invokevirtual 56, 3) := by decide +kernel
theorem dX4_findSyllable_23 : decode cX4_findSyllable 23 = .ok (.aload_n 0, 1) := by decide +kernel
theorem dX4_findSyllable_24 : decode cX4_findSyllable 24 = .ok (.getfield 24, 3) := by decide +kernel
theorem dX4_findSyllable_27 : decode cX4_findSyllable 27 = .ok (.aload_n 0, 1) := by decide +kernel
theorem dX4_findSyllable_28 : decode cX4_findSyllable 28 = .ok (.getfield 18, 3) := by decide +kernel
theorem dX4_findSyllable_31 : decode cX4_findSyllable 31 = .ok (.invokevirtual 38, 3) := by decide +kernel
theorem dX4_findSyllable_34 : decode cX4_findSyllable 34 = .ok (.aload_n 0, 1) := by decide +kernel
theorem dX4_findSyllable_35 : decode cX4_findSyllable 35 = .ok (.getfield 24, 3) := by decide +kernel
theorem dX4_findSyllable_38 : decode cX4_findSyllable 38 = .ok (.getfield 41, 3) := by decide +kernel
theorem dX4_findSyllable_41 : decode cX4_findSyllable 41 = .ok (.iload_n 1, 1) := by decide +kernel
theorem dX4_findSyllable_42 : decode cX4_findSyllable 42 = .ok (.iconst 1, 1) := by decide +kernel
theorem dX4_findSyllable_43 : decode cX4_findSyllable 43 = .ok (.isub, 1) := by decide +kernel
theorem dX4_findSyllable_44 : decode cX4_findSyllable 44 = .ok (.if_icmp .ne 5, 3) := by decide +kernel
theorem dX4_findSyllable_47 : decode cX4_findSyllable 47 = .ok (.iload_n 2, 1) := by decide +kernel
theorem dX4_findSyllable_48 : decode cX4_findSyllable 48 = .ok (.ireturn, 1) := by decide +kernel
theorem dX4_findSyllable_49 : decode cX4_findSyllable 49 = .ok (.iinc 2 1, 3) := by decide +kernel
theorem dX4_findSyllable_52 : decode cX4_findSyllable 52 = .ok (.goto (-50), 3) := by decide +kernel
theorem dX4_findSyllable_55 : decode cX4_findSyllable 55 = .ok (.bipush (-2), 2) := by decide +kernel
theorem dX4_findSyllable_57 : decode cX4_findSyllable 57 = .ok (.ireturn, 1) := by decide +kernel
theorem dX4_takeAway_0 : decode cX4_takeAway 0 = .ok (.iload_n 1, 1) := by decide +kernel
theorem dX4_takeAway_1 : decode cX4_takeAway 1 = .ok (.iconst 2, 1) := by decide +kernel
theorem dX4_takeAway_2 : decode cX4_takeAway 2 = .ok (.if_icmp .ne 19, 3) := by decide +kernel
theorem dX4_takeAway_5 : decode cX4_takeAway 5 = .ok (.aload_n 0, 1) := by decide +kernel
theorem dX4_takeAway_6 : decode cX4_takeAway 6 = .ok (.getfield 18, 3) := by decide +kernel
theorem dX4_takeAway_9 : decode cX4_takeAway 9 = .ok (.iconst 2, 1) := by decide +kernel
theorem dX4_takeAway_10 : decode cX4_takeAway 10 = .ok (.invokevirtual 60, 3) := by decide +kernel
theorem dX4_takeAway_13 : decode cX4_takeAway 13 = .ok (.aload_n 0, 1) := by decide +kernel
theorem dX4_takeAway_14 : decode cX4_takeAway 14 = .ok (.getfield 18, 3) := by decide +kernel
theorem dX4_takeAway_17 : decode cX4_takeAway 17 = .ok (.iconst 4, 1) := by decide +kernel
theorem dX4_takeAway_18 : decode cX4_takeAway 18 = .ok (.invokevirtual 60, 3) := by decide +kernel
theorem dX4_takeAway_21 : decode cX4_takeAway 21 = .ok (.iload_n 1, 1) := by decide +kernel
theorem dX4_takeAway_22 : decode cX4_takeAway 22 = .ok (.iconst 1, 1) := by decide +kernel
theorem dX4_takeAway_23 : decode cX4_takeAway 23 = .ok (.if_icmp .lt 11, 3) := by decide +kernel
theorem dX4_takeAway_26 : decode cX4_takeAway 26 = .ok (.aload_n 0, 1) := by decide +kernel
theorem dX4_takeAway_27 : decode cX4_takeAway 27 = .ok (.getfield 18, 3) := by decide +kernel
theorem dX4_takeAway_30 : decode cX4_takeAway 30 = .ok (.iconst 0, 1) := by decide +kernel
theorem dX4_takeAway_31 : decode cX4_takeAway 31 = .ok (.invokevirtual 60, 3) := by decide +kernel
theorem dX4_takeAway_34 : decode cX4_takeAway 34 = .ok (.aload_n 0, 1) := by decide +kernel
theorem dX4_takeAway_35 : decode cX4_takeAway 35 = .ok (.getfield 18, 3) := by decide +kernel
theorem dX4_takeAway_38 : decode cX4_takeAway 38 = .ok (.bipush 6, 2) := by decide +kernel
theorem dX4_takeAway_40 : decode cX4_takeAway 40 = .ok (.invokevirtual 60, 3) := by decide +kernel
theorem dX4_takeAway_43 : decode cX4_takeAway 43 = .ok (.return_, 1) := by decide +kernel
theorem dX4_addSyllable_0 : decode cX4_addSyllable 0 = .ok (.iload_n 1, 1) := by decide +kernel
theorem dX4_addSyllable_1 : decode cX4_addSyllable 1 = .ok (.iconst 2, 1) := by decide +kernel
theorem dX4_addSyllable_2 : decode cX4_addSyllable 2 = .ok (.if_icmp .lt 11, 3) := by decide +kernel
theorem dX4_addSyllable_5 : decode cX4_addSyllable 5 = .ok (.aload_n 0, 1) := by decide +kernel
theorem dX4_addSyllable_6 : decode cX4_addSyllable 6 = .ok (.iconst 2, 1) := by decide +kernel
theorem dX4_addSyllable_7 : decode cX4_addSyllable 7 = .ok (.invokevirtual 63, 3) := by decide +kernel
theorem dX4_addSyllable_10 : decode cX4_addSyllable 10 = .ok (.ifCond .eq 7, 3) := by decide +kernel
theorem dX4_addSyllable_13 : decode cX4_addSyllable 13 = .ok (.iconst 1, 1) := by decide +kernel
theorem dX4_addSyllable_14 : decode cX4_addSyllable 14 = .ok (.goto 4, 3) := by decide +kernel
theorem dX4_addSyllable_17 : decode cX4_addSyllable 17 = .ok (.iconst 0, 1) := by decide +kernel
theorem dX4_addSyllable_18 : decode cX4_addSyllable 18 = .ok (.istore_n 2, 1) := by decide +kernel
theorem dX4_addSyllable_19 : decode cX4_addSyllable 19 = .ok (.iload_n 2, 1) := by decide +kernel
theorem dX4_addSyllable_20 : decode cX4_addSyllable 20 = .ok (.ifCond .eq 20, 3) := by decide +kernel
theorem dX4_addSyllable_23 : decode cX4_addSyllable 23 = .ok (.iload_n 1, 1) := by decide +kernel
theorem dX4_addSyllable_24 : decode cX4_addSyllable 24 = .ok (.iconst 1, 1) := by decide +kernel
theorem dX4_addSyllable_25 : decode cX4_addSyllable 25 = .ok (.if_icmp .lt 11, 3) := by decide +kernel
theorem dX4_addSyllable_28 : decode cX4_addSyllable 28 = .ok (.aload_n 0, 1) := by decide +kernel
theorem dX4_addSyllable_29 : decode cX4_addSyllable 29 = .ok (.iconst 0, 1) := by decide +kernel
theorem dX4_addSyllable_30 : decode cX4_addSyllable 30 = .ok (.invokevirtual 63, 3) := by decide +kernel
theorem dX4_addSyllable_33 : decode cX4_addSyllable 33 = .ok (.ifCond .eq 7, 3) := by decide +kernel
theorem dX4_addSyllable_36 : decode cX4_addSyllable 36 = .ok (.iconst 1, 1) := by decide +kernel
theorem dX4_addSyllable_37 : decode cX4_addSyllable 37 = .ok (.goto 4, 3) := by decide +kernel
theorem dX4_addSyllable_40 : decode cX4_addSyllable 40 = .ok (.iconst 0, 1) := by decide +kernel
theorem dX4_addSyllable_41 : decode cX4_addSyllable 41 = .ok (.istore_n 2, 1) := by decide +kernel
theorem dX4_addSyllable_42 : decode cX4_addSyllable 42 = .ok (.iload_n 2, 1) := by decide +kernel
theorem dX4_addSyllable_43 : decode cX4_addSyllable 43 = .ok (.ifCond .eq 15, 3) := by decide +kernel
theorem dX4_addSyllable_46 : decode cX4_addSyllable 46 = .ok (.aload_n 0, 1) := by decide +kernel
theorem dX4_addSyllable_47 : decode cX4_addSyllable 47 = .ok (.iconst 1, 1) := by decide +kernel
theorem dX4_addSyllable_48 : decode cX4_addSyllable 48 = .ok (.invokevirtual 63, 3) := by decide +kernel
theorem dX4_addSyllable_51 : decode cX4_addSyllable 51 = .ok (.ifCond .eq 7, 3) := by decide +kernel
theorem dX4_addSyllable_54 : decode cX4_addSyllable 54 = .ok (.iconst 1, 1) := by decide +kernel
theorem dX4_addSyllable_55 : decode cX4_addSyllable 55 = .ok (.goto 4, 3) := by decide +kernel
theorem dX4_addSyllable_58 : decode cX4_addSyllable 58 = .ok (.iconst 0, 1) := by decide +kernel
theorem dX4_addSyllable_59 : decode cX4_addSyllable 59 = .ok (.ireturn, 1) := by decide +kernel
theorem dX4_addCheapest_0 : decode cX4_addCheapest 0 = .ok (.aload_n 2, 1) := by decide +kernel
theorem dX4_addCheapest_1 : decode cX4_addCheapest 1 = .ok (.aload_n 0, 1) := by decide +kernel
theorem dX4_addCheapest_2 : decode cX4_addCheapest 2 = .ok (.getfield 12, 3) := by decide +kernel
theorem dX4_addCheapest_5 : decode cX4_addCheapest 5 = .ok (.invokevirtual 67, 3) := by decide +kernel
theorem dX4_addCheapest_8 : decode cX4_addCheapest 8 = .ok (.istore_n 3, 1) := by decide +kernel
theorem dX4_addCheapest_9 : decode cX4_addCheapest 9 = .ok (.iload_n 3, 1) := by decide +kernel
theorem dX4_addCheapest_10 : decode cX4_addCheapest 10 = .ok (.ifCond .ge 5, 3) := by decide +kernel
theorem dX4_addCheapest_13 : decode cX4_addCheapest 13 = .ok (.iconst 0, 1) := by decide +kernel
theorem dX4_addCheapest_14 : decode cX4_addCheapest 14 = .ok (.ireturn, 1) := by decide +kernel
theorem dX4_addCheapest_15 : decode cX4_addCheapest 15 = .ok (.aload_n 2, 1) := by decide +kernel
theorem dX4_addCheapest_16 : decode cX4_addCheapest 16 = .ok (.iload_n 3, 1) := by decide +kernel
theorem dX4_addCheapest_17 : decode cX4_addCheapest 17 = .ok (.invokevirtual 73, 3) := by decide +kernel
theorem dX4_addCheapest_20 : decode cX4_addCheapest 20 = .ok (.istore 4, 2) := by decide +kernel
theorem dX4_addCheapest_22 : decode cX4_addCheapest 22 = .ok (.iconst 0, 1) := by decide +kernel
theorem dX4_addCheapest_23 : decode cX4_addCheapest 23 = .ok (.istore 5, 2) := by decide +kernel
theorem dX4_addCheapest_25 : decode cX4_addCheapest 25 = .ok (.iload 5, 2) := by decide +kernel
theorem dX4_addCheapest_27 : decode cX4_addCheapest 27 = .ok (.iload 4, 2) := by decide +kernel
theorem dX4_addCheapest_29 : decode cX4_addCheapest 29 = .ok (.if_icmp .ge 29, 3) := by decide +kernel
theorem dX4_addCheapest_32 : decode cX4_addCheapest 32 = .ok (.aload_n 1, 1) := by decide +kernel
theorem dX4_addCheapest_33 : decode cX4_addCheapest 33 = .ok (.aload_n 2, 1) := by decide +kernel
theorem dX4_addCheapest_34 : decode cX4_addCheapest 34 = .ok (.iload_n 3, 1) := by decide +kernel
theorem dX4_addCheapest_35 : decode cX4_addCheapest 35 = .ok (.invokevirtual 76, 3) := by decide +kernel
theorem dX4_addCheapest_38 : decode cX4_addCheapest 38 = .ok (.invokevirtual 63, 3) := by decide +kernel
theorem dX4_addCheapest_41 : decode cX4_addCheapest 41 = .ok (.ifCond .ne 5, 3) := by decide +kernel
theorem dX4_addCheapest_44 : decode cX4_addCheapest 44 = .ok (.iconst 0, 1) := by decide +kernel
theorem dX4_addCheapest_45 : decode cX4_addCheapest 45 = .ok (.ireturn, 1) := by decide +kernel
theorem dX4_addCheapest_46 : decode cX4_addCheapest 46 = .ok (.aload_n 2, 1) := by decide +kernel
theorem dX4_addCheapest_47 : decode cX4_addCheapest 47 = .ok (.iload_n 3, 1) := by decide +kernel
theorem dX4_addCheapest_48 : decode cX4_addCheapest 48 = .ok (.invokevirtual 79, 3) := by decide +kernel
theorem dX4_addCheapest_51 : decode cX4_addCheapest 51 = .ok (.istore_n 3, 1) := by decide +kernel
theorem dX4_addCheapest_52 : decode cX4_addCheapest 52 = .ok (.iinc 5 1, 3) := by decide +kernel
theorem dX4_addCheapest_55 : decode cX4_addCheapest 55 = .ok (.goto (-30), 3) := by decide +kernel
theorem dX4_addCheapest_58 : decode cX4_addCheapest 58 = .ok (.iconst 1, 1) := by decide +kernel
theorem dX4_addCheapest_59 : decode cX4_addCheapest 59 = .ok (.ireturn, 1) := by decide +kernel
theorem dX5_init_0 : decode cX5_init 0 = .ok (.aload_n 0, 1) := by decide +kernel
theorem dX5_init_1 : decode cX5_init 1 = .ok (.invokespecial 3, 3) := by decide +kernel
theorem dX5_init_4 : decode cX5_init 4 = .ok (.aload_n 0, 1) := by decide +kernel
theorem dX5_init_5 : decode cX5_init 5 = .ok (.sipush 300, 3) := by decide +kernel
theorem dX5_init_8 : decode cX5_init 8 = .ok (.newarray .int, 2) := by decide +kernel
theorem dX5_init_10 : decode cX5_init 10 = .ok (.putfield 9, 3) := by decide +kernel
theorem dX5_init_13 : decode cX5_init 13 = .ok (.aload_n 0, 1) := by decide +kernel
theorem dX5_init_14 : decode cX5_init 14 = .ok (.bipush 60, 2) := by decide +kernel
theorem dX5_init_16 : decode cX5_init 16 = .ok (.newarray .int, 2) := by decide +kernel
theorem dX5_init_18 : decode cX5_init 18 = .ok (.putfield 15, 3) := by decide +kernel
theorem dX5_init_21 : decode cX5_init 21 = .ok (.aload_n 0, 1) := by decide +kernel
theorem dX5_init_22 : decode cX5_init 22 = .ok (.iconst 5, 1) := by decide +kernel
theorem dX5_init_23 : decode cX5_init 23 = .ok (.newarray .int, 2) := by decide +kernel
theorem dX5_init_25 : decode cX5_init 25 = .ok (.putfield 18, 3) := by decide +kernel
theorem dX5_init_28 : decode cX5_init 28 = .ok (.aload_n 0, 1) := by decide +kernel
theorem dX5_init_29 : decode cX5_init 29 = .ok (.iconst 5, 1) := by decide +kernel
theorem dX5_init_30 : decode cX5_init 30 = .ok (.newarray .int, 2) := by decide +kernel
theorem dX5_init_32 : decode cX5_init 32 = .ok (.putfield 21, 3) := by decide +kernel
theorem dX5_init_35 : decode cX5_init 35 = .ok (.aload_n 0, 1) := by decide +kernel
theorem dX5_init_36 : decode cX5_init 36 = .ok (.iconst 0, 1) := by decide +kernel
theorem dX5_init_37 : decode cX5_init 37 = .ok (.putfield 24, 3) := by decide +kernel
theorem dX5_init_40 : decode cX5_init 40 = .ok (.aload_n 0, 1) := by decide +kernel
theorem dX5_init_41 : decode cX5_init 41 = .ok (.iconst 0, 1) := by decide +kernel
theorem dX5_init_42 : decode cX5_init 42 = .ok (.putfield 28, 3) := by decide +kernel
theorem dX5_init_45 : decode cX5_init 45 = .ok (.aload_n 0, 1) := by decide +kernel
theorem dX5_init_46 : decode cX5_init 46 = .ok (.iconst 0, 1) := by decide +kernel
theorem dX5_init_47 : decode cX5_init 47 = .ok (.putfield 31, 3) := by decide +kernel
theorem dX5_init_50 : decode cX5_init 50 = .ok (.return_, 1) := by decide +kernel
theorem dX5_read_0 : decode cX5_read 0 = .ok (.aload_n 0, 1) := by decide +kernel
theorem dX5_read_1 : decode cX5_read 1 = .ok (.iconst 0, 1) := by decide +kernel
theorem dX5_read_2 : decode cX5_read 2 = .ok (.putfield 24, 3) := by decide +kernel
theorem dX5_read_5 : decode cX5_read 5 = .ok (.aload_n 0, 1) := by decide +kernel
theorem dX5_read_6 : decode cX5_read 6 = .ok (.iconst 0, 1) := by decide +kernel
theorem dX5_read_7 : decode cX5_read 7 = .ok (.putfield 28, 3) := by decide +kernel
theorem dX5_read_10 : decode cX5_read 10 = .ok (.aload_n 0, 1) := by decide +kernel
theorem dX5_read_11 : decode cX5_read 11 = .ok (.iconst 0, 1) := by decide +kernel
theorem dX5_read_12 : decode cX5_read 12 = .ok (.putfield 31, 3) := by decide +kernel
theorem dX5_read_15 : decode cX5_read 15 = .ok (.aload_n 0, 1) := by decide +kernel
theorem dX5_read_16 : decode cX5_read 16 = .ok (.getfield 18, 3) := by decide +kernel
theorem dX5_read_19 : decode cX5_read 19 = .ok (.iconst 0, 1) := by decide +kernel
theorem dX5_read_20 : decode cX5_read 20 = .ok (.iconst 0, 1) := by decide +kernel
theorem dX5_read_21 : decode cX5_read 21 = .ok (.iastore, 1) := by decide +kernel
theorem dX5_read_22 : decode cX5_read 22 = .ok (.iconst 0, 1) := by decide +kernel
theorem dX5_read_23 : decode cX5_read 23 = .ok (.istore_n 3, 1) := by decide +kernel
theorem dX5_read_24 : decode cX5_read 24 = .ok (.iload_n 3, 1) := by decide +kernel
theorem dX5_read_25 : decode cX5_read 25 = .ok (.aload_n 1, 1) := by decide +kernel
theorem dX5_read_26 : decode cX5_read 26 = .ok (.getfield 34, 3) := by decide +kernel
theorem dX5_read_29 : decode cX5_read 29 = .ok (.if_icmp .ge 20, 3) := by decide +kernel
theorem dX5_read_32 : decode cX5_read 32 = .ok (.aload_n 0, 1) := by decide +kernel
theorem dX5_read_33 : decode cX5_read 33 = .ok (.aload_n 1, 1) := by decide +kernel
theorem dX5_read_34 : decode cX5_read 34 = .ok (.iload_n 3, 1) := by decide +kernel
theorem dX5_read_35 : decode cX5_read 35 = .ok (.invokevirtual 37, 3) := by decide +kernel
theorem dX5_read_38 : decode cX5_read 38 = .ok (.ifCond .ne 5, 3) := by decide +kernel
theorem dX5_read_41 : decode cX5_read 41 = .ok (.iconst 0, 1) := by decide +kernel
theorem dX5_read_42 : decode cX5_read 42 = .ok (.ireturn, 1) := by decide +kernel
theorem dX5_read_43 : decode cX5_read 43 = .ok (.iinc 3 1, 3) := by decide +kernel
theorem dX5_read_46 : decode cX5_read 46 = .ok (.goto (-22), 3) := by decide +kernel
theorem dX5_read_49 : decode cX5_read 49 = .ok (.aload_n 2, 1) := by decide +kernel
theorem dX5_read_50 : decode cX5_read 50 = .ok (.iconst 0, 1) := by decide +kernel
theorem dX5_read_51 : decode cX5_read 51 = .ok (.putfield 41, 3) := by decide +kernel
theorem dX5_read_54 : decode cX5_read 54 = .ok (.iconst 0, 1) := by decide +kernel
theorem dX5_read_55 : decode cX5_read 55 = .ok (.istore_n 3, 1) := by decide +kernel
theorem dX5_read_56 : decode cX5_read 56 = .ok (.iload_n 3, 1) := by decide +kernel
theorem dX5_read_57 : decode cX5_read 57 = .ok (.aload_n 0, 1) := by decide +kernel
theorem dX5_read_58 : decode cX5_read 58 = .ok (.getfield 24, 3) := by decide +kernel
theorem dX5_read_61 : decode cX5_read 61 = .ok (.if_icmp .ge 24, 3) := by decide +kernel
theorem dX5_read_64 : decode cX5_read 64 = .ok (.aload_n 2, 1) := by decide +kernel
theorem dX5_read_65 : decode cX5_read 65 = .ok (.aload_n 0, 1) := by decide +kernel
theorem dX5_read_66 : decode cX5_read 66 = .ok (.getfield 9, 3) := by decide +kernel
theorem dX5_read_69 : decode cX5_read 69 = .ok (.iload_n 3, 1) := by decide +kernel
theorem dX5_read_70 : decode cX5_read 70 = .ok (.iaload, 1) := by decide +kernel

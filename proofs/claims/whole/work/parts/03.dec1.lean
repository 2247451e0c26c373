theorem dX0_init_0 : decode cX0_init 0 = .ok (.aload_n 0, 1) := by decide +kernel
theorem dX0_init_1 : decode cX0_init 1 = .ok (.aload_n 1, 1) := by decide +kernel
theorem dX0_init_2 : decode cX0_init 2 = .ok (.invokespecial 1, 3) := by decide +kernel
theorem dX0_init_5 : decode cX0_init 5 = .ok (.return_, 1) := by decide +kernel
theorem dX0_lets_0 : decode cX0_lets 0 = .ok (.iload_n 1, 1) := by decide +kernel
theorem dX0_lets_1 : decode cX0_lets 1 = .ok (.iload_n 2, 1) := by decide +kernel
theorem dX0_lets_2 : decode cX0_lets 2 = .ok (.iadd, 1) := by decide +kernel
theorem dX0_lets_3 : decode cX0_lets 3 = .ok (.iconst 2, 1) := by decide +kernel
theorem dX0_lets_4 : decode cX0_lets 4 = .ok (.irem, 1) := by decide +kernel
theorem dX0_lets_5 : decode cX0_lets 5 = .ok (.ifCond .ne 17, 3) := by decide +kernel
theorem dX0_lets_8 : decode cX0_lets 8 = .ok (.aload_n 0, 1) := by decide +kernel
theorem dX0_lets_9 : decode cX0_lets 9 = .ok (.iload_n 1, 1) := by decide +kernel
theorem dX0_lets_10 : decode cX0_lets 10 = .ok (.iload_n 2, 1) := by decide +kernel
theorem dX0_lets_11 : decode cX0_lets 11 = .ok (.iload_n 3, 1) := by decide +kernel
theorem dX0_lets_12 : decode cX0_lets 12 = .ok (.invokespecial 7, 3) := by decide +kernel
theorem dX0_lets_15 : decode cX0_lets 15 = .ok (.ifCond .eq 7, 3) := by decide +kernel
theorem dX0_lets_18 : decode cX0_lets 18 = .ok (.iconst 1, 1) := by decide +kernel
theorem dX0_lets_19 : decode cX0_lets 19 = .ok (.goto 4, 3) := by decide +kernel
theorem dX0_lets_22 : decode cX0_lets 22 = .ok (.iconst 0, 1) := by decide +kernel
theorem dX0_lets_23 : decode cX0_lets 23 = .ok (.ireturn, 1) := by decide +kernel
theorem dX1_init_0 : decode cX1_init 0 = .ok (.aload_n 0, 1) := by decide +kernel
theorem dX1_init_1 : decode cX1_init 1 = .ok (.aload_n 1, 1) := by decide +kernel
theorem dX1_init_2 : decode cX1_init 2 = .ok (.invokespecial 1, 3) := by decide +kernel
theorem dX1_init_5 : decode cX1_init 5 = .ok (.return_, 1) := by decide +kernel
theorem dX1_lets_0 : decode cX1_lets 0 = .ok (.aload_n 0, 1) := by decide +kernel
theorem dX1_lets_1 : decode cX1_lets 1 = .ok (.iload_n 1, 1) := by decide +kernel
theorem dX1_lets_2 : decode cX1_lets 2 = .ok (.iload_n 2, 1) := by decide +kernel
theorem dX1_lets_3 : decode cX1_lets 3 = .ok (.iload_n 3, 1) := by decide +kernel
theorem dX1_lets_4 : decode cX1_lets 4 = .ok (.invokespecial 7, 3) := by decide +kernel
theorem dX1_lets_7 : decode cX1_lets 7 = .ok (.ifCond .ne 15, 3) := by decide +kernel
theorem dX1_lets_10 : decode cX1_lets 10 = .ok (.aload_n 0, 1) := by decide +kernel
theorem dX1_lets_11 : decode cX1_lets 11 = .ok (.getfield 11, 3) := by decide +kernel
theorem dX1_lets_14 : decode cX1_lets 14 = .ok (.iload_n 1, 1) := by decide +kernel
theorem dX1_lets_15 : decode cX1_lets 15 = .ok (.iload_n 2, 1) := by decide +kernel
theorem dX1_lets_16 : decode cX1_lets 16 = .ok (.invokevirtual 17, 3) := by decide +kernel
theorem dX1_lets_19 : decode cX1_lets 19 = .ok (.ifCond .eq 7, 3) := by decide +kernel
theorem dX1_lets_22 : decode cX1_lets 22 = .ok (.iconst 1, 1) := by decide +kernel
theorem dX1_lets_23 : decode cX1_lets 23 = .ok (.goto 4, 3) := by decide +kernel
theorem dX1_lets_26 : decode cX1_lets 26 = .ok (.iconst 0, 1) := by decide +kernel
theorem dX1_lets_27 : decode cX1_lets 27 = .ok (.ireturn, 1) := by decide +kernel
theorem dX2_init_0 : decode cX2_init 0 = .ok (.aload_n 0, 1) := by decide +kernel
theorem dX2_init_1 : decode cX2_init 1 = .ok (.invokespecial 3, 3) := by decide +kernel
theorem dX2_init_4 : decode cX2_init 4 = .ok (.aload_n 0, 1) := by decide +kernel
theorem dX2_init_5 : decode cX2_init 5 = .ok (.bipush 6, 2) := by decide +kernel
theorem dX2_init_7 : decode cX2_init 7 = .ok (.anewarray 9, 3) := by decide +kernel
theorem dX2_init_10 : decode cX2_init 10 = .ok (.putfield 11, 3) := by decide +kernel
theorem dX2_init_13 : decode cX2_init 13 = .ok (.aload_n 0, 1) := by decide +kernel
theorem dX2_init_14 : decode cX2_init 14 = .ok (.getfield 11, 3) := by decide +kernel
theorem dX2_init_17 : decode cX2_init 17 = .ok (.iconst 0, 1) := by decide +kernel
theorem dX2_init_18 : decode cX2_init 18 = .ok (.new 9, 3) := by decide +kernel
theorem dX2_init_21 : decode cX2_init 21 = .ok (.dup, 1) := by decide +kernel
theorem dX2_init_22 : decode cX2_init 22 = .ok (.aload_n 1, 1) := by decide +kernel
theorem dX2_init_23 : decode cX2_init 23 = .ok (.invokespecial 17, 3) := by decide +kernel
theorem dX2_init_26 : decode cX2_init 26 = .ok (.aastore, 1) := by decide +kernel
theorem dX2_init_27 : decode cX2_init 27 = .ok (.aload_n 0, 1) := by decide +kernel
theorem dX2_init_28 : decode cX2_init 28 = .ok (.getfield 11, 3) := by decide +kernel
theorem dX2_init_31 : decode cX2_init 31 = .ok (.iconst 1, 1) := by decide +kernel
theorem dX2_init_32 : decode cX2_init 32 = .ok (.new 20, 3) := by decide +kernel
theorem dX2_init_35 : decode cX2_init 35 = .ok (.dup, 1) := by decide +kernel
theorem dX2_init_36 : decode cX2_init 36 = .ok (.aload_n 1, 1) := by decide +kernel
theorem dX2_init_37 : decode cX2_init 37 = .ok (.invokespecial 22, 3) := by decide +kernel
theorem dX2_init_40 : decode cX2_init 40 = .ok (.aastore, 1) := by decide +kernel
theorem dX2_init_41 : decode cX2_init 41 = .ok (.aload_n 0, 1) := by decide +kernel
theorem dX2_init_42 : decode cX2_init 42 = .ok (.getfield 11, 3) := by decide +kernel
theorem dX2_init_45 : decode cX2_init 45 = .ok (.iconst 2, 1) := by decide +kernel
theorem dX2_init_46 : decode cX2_init 46 = .ok (.new 23, 3) := by decide +kernel
theorem dX2_init_49 : decode cX2_init 49 = .ok (.dup, 1) := by decide +kernel
theorem dX2_init_50 : decode cX2_init 50 = .ok (.aload_n 1, 1) := by decide +kernel
theorem dX2_init_51 : decode cX2_init 51 = .ok (.invokespecial 25, 3) := by decide +kernel
theorem dX2_init_54 : decode cX2_init 54 = .ok (.aastore, 1) := by decide +kernel
theorem dX2_init_55 : decode cX2_init 55 = .ok (.aload_n 0, 1) := by decide +kernel
theorem dX2_init_56 : decode cX2_init 56 = .ok (.getfield 11, 3) := by decide +kernel
theorem dX2_init_59 : decode cX2_init 59 = .ok (.iconst 3, 1) := by decide +kernel
theorem dX2_init_60 : decode cX2_init 60 = .ok (.new 26, 3) := by decide +kernel
theorem dX2_init_63 : decode cX2_init 63 = .ok (.dup, 1) := by decide +kernel
theorem dX2_init_64 : decode cX2_init 64 = .ok (.aload_n 1, 1) := by decide +kernel
theorem dX2_init_65 : decode cX2_init 65 = .ok (.invokespecial 28, 3) := by decide +kernel
theorem dX2_init_68 : decode cX2_init 68 = .ok (.aastore, 1) := by decide +kernel
theorem dX2_init_69 : decode cX2_init 69 = .ok (.aload_n 0, 1) := by decide +kernel
theorem dX2_init_70 : decode cX2_init 70 = .ok (.getfield 11, 3) := by decide +kernel
theorem dX2_init_73 : decode cX2_init 73 = .ok (.iconst 4, 1) := by decide +kernel
theorem dX2_init_74 : decode cX2_init 74 = .ok (.new 29, 3) := by decide +kernel
theorem dX2_init_77 : decode cX2_init 77 = .ok (.dup, 1) := by decide +kernel
theorem dX2_init_78 : decode cX2_init 78 = .ok (.aload_n 1, 1) := by decide +kernel
theorem dX2_init_79 : decode cX2_init 79 = .ok (.invokespecial 31, 3) := by decide +kernel
theorem dX2_init_82 : decode cX2_init 82 = .ok (.aastore, 1) := by decide +kernel
theorem dX2_init_83 : decode cX2_init 83 = .ok (.aload_n 0, 1) := by decide +kernel
theorem dX2_init_84 : decode cX2_init 84 = .ok (.getfield 11, 3) := by decide +kernel
theorem dX2_init_87 : decode cX2_init 87 = .ok (.iconst 5, 1) := by decide +kernel
theorem dX2_init_88 : decode cX2_init 88 = .ok (.new 32, 3) := by decide +kernel
theorem dX2_init_91 : decode cX2_init 91 = .ok (.dup, 1) := by decide +kernel
theorem dX2_init_92 : decode cX2_init 92 = .ok (.aload_n 1, 1) := by decide +kernel
theorem dX2_init_93 : decode cX2_init 93 = .ok (.invokespecial 34, 3) := by decide +kernel
theorem dX2_init_96 : decode cX2_init 96 = .ok (.aastore, 1) := by decide +kernel
theorem dX2_init_97 : decode cX2_init 97 = .ok (.return_, 1) := by decide +kernel
theorem dX2_allows_0 : decode cX2_allows 0 = .ok (.iload_n 2, 1) := by decide +kernel
theorem dX2_allows_1 : decode cX2_allows 1 = .ok (.ifCond .eq 17, 3) := by decide +kernel
theorem dX2_allows_4 : decode cX2_allows 4 = .ok (.iload_n 3, 1) := by decide +kernel
theorem dX2_allows_5 : decode cX2_allows 5 = .ok (.ifCond .eq 13, 3) := by decide +kernel
theorem dX2_allows_8 : decode cX2_allows 8 = .ok (.iload_n 1, 1) := by decide +kernel
theorem dX2_allows_9 : decode cX2_allows 9 = .ok (.ifCond .lt 9, 3) := by decide +kernel
theorem dX2_allows_12 : decode cX2_allows 12 = .ok (.iload_n 1, 1) := by decide +kernel
theorem dX2_allows_13 : decode cX2_allows 13 = .ok (.bipush 60, 2) := by decide +kernel
theorem dX2_allows_15 : decode cX2_allows 15 = .ok (.if_icmp .lt 5, 3) := by decide +kernel
theorem dX2_allows_18 : decode cX2_allows 18 = .ok (.iconst 1, 1) := by decide +kernel
theorem dX2_allows_19 : decode cX2_allows 19 = .ok (.ireturn, 1) := by decide +kernel
theorem dX2_allows_20 : decode cX2_allows 20 = .ok (.aload_n 0, 1) := by decide +kernel
theorem dX2_allows_21 : decode cX2_allows 21 = .ok (.getfield 11, 3) := by decide +kernel
theorem dX2_allows_24 : decode cX2_allows 24 = .ok (.iload_n 1, 1) := by decide +kernel
theorem dX2_allows_25 : decode cX2_allows 25 = .ok (.bipush 10, 2) := by decide +kernel
theorem dX2_allows_27 : decode cX2_allows 27 = .ok (.idiv, 1) := by decide +kernel
theorem dX2_allows_28 : decode cX2_allows 28 = .ok (.aaload, 1) := by decide +kernel
theorem dX2_allows_29 : decode cX2_allows 29 = .ok (.astore 4, 2) := by decide +kernel
theorem dX2_allows_31 : decode cX2_allows 31 = .ok (.aload 4, 2) := by decide +kernel
theorem dX2_allows_33 : decode cX2_allows 33 = .ok (.ifnull 17, 3) := by decide +kernel
theorem dX2_allows_36 : decode cX2_allows 36 = .ok (.aload 4, 2) := by decide +kernel
theorem dX2_allows_38 : decode cX2_allows 38 = .ok (.iload_n 2, 1) := by decide +kernel
theorem dX2_allows_39 : decode cX2_allows 39 = .ok (.iload_n 3, 1) := by decide +kernel
theorem dX2_allows_40 : decode cX2_allows 40 = .ok (.iload_n 1, 1) := by decide +kernel
theorem dX2_allows_41 : decode cX2_allows 41 = .ok (.bipush 10, 2) := by decide +kernel
theorem dX2_allows_43 : decode cX2_allows 43 = .ok (.irem, 1) := by decide +kernel
theorem dX2_allows_44 : decode cX2_allows 44 = .ok (.invokevirtual 35, 3) := by decide +kernel
theorem dX2_allows_47 : decode cX2_allows 47 = .ok (.ifCond .eq 7, 3) := by decide +kernel
theorem dX2_allows_50 : decode cX2_allows 50 = .ok (.iconst 1, 1) := by decide +kernel
theorem dX2_allows_51 : decode cX2_allows 51 = .ok (.goto 4, 3) := by decide +kernel
theorem dX2_allows_54 : decode cX2_allows 54 = .ok (.iconst 0, 1) := by decide +kernel
theorem dX2_allows_55 : decode cX2_allows 55 = .ok (.ireturn, 1) := by decide +kernel
theorem dX2_quarrelling_0 : decode cX2_quarrelling 0 = .ok (.iconst 0, 1) := by decide +kernel
theorem dX2_quarrelling_1 : decode cX2_quarrelling 1 = .ok (.istore_n 3, 1) := by decide +kernel
theorem dX2_quarrelling_2 : decode cX2_quarrelling 2 = .ok (.iconst 0, 1) := by decide +kernel
theorem dX2_quarrelling_3 : decode cX2_quarrelling 3 = .ok (.istore 4, 2) := by decide +kernel
theorem dX2_quarrelling_5 : decode cX2_quarrelling 5 = .ok (.iload 4, 2) := by decide +kernel
theorem dX2_quarrelling_7 : decode cX2_quarrelling 7 = .ok (.iconst 1, 1) := by decide +kernel
theorem dX2_quarrelling_8 : decode cX2_quarrelling 8 = .ok (.iadd, 1) := by decide +kernel
theorem dX2_quarrelling_9 : decode cX2_quarrelling 9 = .ok (.aload_n 2, 1) := by decide +kernel
theorem dX2_quarrelling_10 : decode cX2_quarrelling 10 = .ok (.arraylength, 1) := by decide +kernel
theorem dX2_quarrelling_11 : decode cX2_quarrelling 11 = .ok (.if_icmp .ge 34, 3) := by decide +kernel
theorem dX2_quarrelling_14 : decode cX2_quarrelling 14 = .ok (.aload_n 0, 1) := by decide +kernel
theorem dX2_quarrelling_15 : decode cX2_quarrelling 15 = .ok (.iload_n 1, 1) := by decide +kernel
theorem dX2_quarrelling_16 : decode cX2_quarrelling 16 = .ok (.aload_n 2, 1) := by decide +kernel
theorem dX2_quarrelling_17 : decode cX2_quarrelling 17 = .ok (.iload 4, 2) := by decide +kernel
theorem dX2_quarrelling_19 : decode cX2_quarrelling 19 = .ok (.iaload, 1) := by decide +kernel
theorem dX2_quarrelling_20 : decode cX2_quarrelling 20 = .ok (.aload_n 2, 1) := by decide +kernel
theorem dX2_quarrelling_21 : decode cX2_quarrelling 21 = .ok (.iload 4, 2) := by decide +kernel
theorem dX2_quarrelling_23 : decode cX2_quarrelling 23 = .ok (.iconst 1, 1) := by decide +kernel
theorem dX2_quarrelling_24 : decode cX2_quarrelling 24 = .ok (.iadd, 1) := by decide +kernel
theorem dX2_quarrelling_25 : decode cX2_quarrelling 25 = .ok (.iaload, 1) := by decide +kernel
theorem dX2_quarrelling_26 : decode cX2_quarrelling 26 = .ok (.invokevirtual 39, 3) := by decide +kernel
theorem dX2_quarrelling_29 : decode cX2_quarrelling 29 = .ok (.ifCond .ne 10, 3) := by decide +kernel
theorem dX2_quarrelling_32 : decode cX2_quarrelling 32 = .ok (.iload_n 3, 1) := by decide +kernel
theorem dX2_quarrelling_33 : decode cX2_quarrelling 33 = .ok (.iconst 1, 1) := by decide +kernel
theorem dX2_quarrelling_34 : decode cX2_quarrelling 34 = .ok (.iload 4, 2) := by decide +kernel
theorem dX2_quarrelling_36 : decode cX2_quarrelling 36 = .ok (.ishl, 1) := by decide +kernel
theorem dX2_quarrelling_37 : decode cX2_quarrelling 37 = .ok (.ior, 1) := by decide +kernel
theorem dX2_quarrelling_38 : decode cX2_quarrelling 38 = .ok (.istore_n 3, 1) := by decide +kernel
theorem dX2_quarrelling_39 : decode cX2_quarrelling 39 = .ok (.iinc 4 1, 3) := by decide +kernel
theorem dX2_quarrelling_42 : decode cX2_quarrelling 42 = .ok (.goto (-37), 3) := by decide +kernel
theorem dX2_quarrelling_45 : decode cX2_quarrelling 45 = .ok (.iload_n 3, 1) := by decide +kernel
theorem dX2_quarrelling_46 : decode cX2_quarrelling 46 = .ok (.ireturn, 1) := by decide +kernel
theorem dX2_peacefulTenths_0 : decode cX2_peacefulTenths 0 = .ok (.iconst 0, 1) := by decide +kernel
theorem dX2_peacefulTenths_1 : decode cX2_peacefulTenths 1 = .ok (.istore 4, 2) := by decide +kernel
theorem dX2_peacefulTenths_3 : decode cX2_peacefulTenths 3 = .ok (.iconst 0, 1) := by decide +kernel
theorem dX2_peacefulTenths_4 : decode cX2_peacefulTenths 4 = .ok (.istore 5, 2) := by decide +kernel
theorem dX2_peacefulTenths_6 : decode cX2_peacefulTenths 6 = .ok (.lconst 1, 1) := by decide +kernel
theorem dX2_peacefulTenths_7 : decode cX2_peacefulTenths 7 = .ok (.lstore 6, 2) := by decide +kernel
theorem dX2_peacefulTenths_9 : decode cX2_peacefulTenths 9 = .ok (.lconst 0, 1) := by decide +kernel
theorem dX2_peacefulTenths_10 : decode cX2_peacefulTenths 10 = .ok (.lstore 8, 2) := by decide +kernel
theorem dX2_peacefulTenths_12 : decode cX2_peacefulTenths 12 = .ok (.iconst 0, 1) := by decide +kernel
theorem dX2_peacefulTenths_13 : decode cX2_peacefulTenths 13 = .ok (.istore 10, 2) := by decide +kernel
theorem dX2_peacefulTenths_15 : decode cX2_peacefulTenths 15 = .ok (.iload 10, 2) := by decide +kernel
theorem dX2_peacefulTenths_17 : decode cX2_peacefulTenths 17 = .ok (.aload_n 2, 1) := by decide +kernel
theorem dX2_peacefulTenths_18 : decode cX2_peacefulTenths 18 = .ok (.arraylength, 1) := by decide +kernel
theorem dX2_peacefulTenths_19 : decode cX2_peacefulTenths 19 = .ok (.if_icmp .ge 169, 3) := by decide +kernel
theorem dX2_peacefulTenths_22 : decode cX2_peacefulTenths 22 = .ok (.aload_n 2, 1) := by decide +kernel
theorem dX2_peacefulTenths_23 : decode cX2_peacefulTenths 23 = .ok (.iload 10, 2) := by decide +kernel
theorem dX2_peacefulTenths_25 : decode cX2_peacefulTenths 25 = .ok (.iaload, 1) := by decide +kernel
theorem dX2_peacefulTenths_26 : decode cX2_peacefulTenths 26 = .ok (.istore 11, 2) := by decide +kernel
theorem dX2_peacefulTenths_28 : decode cX2_peacefulTenths 28 = .ok (.iload 11, 2) := by decide +kernel
theorem dX2_peacefulTenths_30 : decode cX2_peacefulTenths 30 = .ok (.ifCond .eq 11, 3) := by decide +kernel
theorem dX2_peacefulTenths_33 : decode cX2_peacefulTenths 33 = .ok (.iload 11, 2) := by decide +kernel
theorem dX2_peacefulTenths_35 : decode cX2_peacefulTenths 35 = .ok (.sipush 300, 3) := by decide +kernel
theorem dX2_peacefulTenths_38 : decode cX2_peacefulTenths 38 = .ok (.if_icmp .lt 8, 3) := by decide +kernel
theorem dX2_peacefulTenths_41 : decode cX2_peacefulTenths 41 = .ok (.iload 11, 2) := by decide +kernel
theorem dX2_peacefulTenths_43 : decode cX2_peacefulTenths 43 = .ok (.goto 7, 3) := by decide +kernel
theorem dX2_peacefulTenths_46 : decode cX2_peacefulTenths 46 = .ok (.iload 11, 2) := by decide +kernel
theorem dX2_peacefulTenths_48 : decode cX2_peacefulTenths 48 = .ok (.iconst 1, 1) := by decide +kernel
theorem dX2_peacefulTenths_49 : decode cX2_peacefulTenths 49 = .ok (.iadd, 1) := by decide +kernel
theorem dX2_peacefulTenths_50 : decode cX2_peacefulTenths 50 = .ok (.istore 12, 2) := by decide +kernel
theorem dX2_peacefulTenths_52 : decode cX2_peacefulTenths 52 = .ok (.aload_n 0, 1) := by decide +kernel
theorem dX2_peacefulTenths_53 : decode cX2_peacefulTenths 53 = .ok (.iload_n 1, 1) := by decide +kernel
theorem dX2_peacefulTenths_54 : decode cX2_peacefulTenths 54 = .ok (.iload 4, 2) := by decide +kernel
theorem dX2_peacefulTenths_56 : decode cX2_peacefulTenths 56 = .ok (.iload 11, 2) := by decide +kernel
theorem dX2_peacefulTenths_58 : decode cX2_peacefulTenths 58 = .ok (.invokevirtual 39, 3) := by decide +kernel
theorem dX2_peacefulTenths_61 : decode cX2_peacefulTenths 61 = .ok (.ifCond .eq 8, 3) := by decide +kernel
theorem dX2_peacefulTenths_64 : decode cX2_peacefulTenths 64 = .ok (.lload 6, 2) := by decide +kernel
theorem dX2_peacefulTenths_66 : decode cX2_peacefulTenths 66 = .ok (.goto 4, 3) := by decide +kernel
theorem dX2_peacefulTenths_69 : decode cX2_peacefulTenths 69 = .ok (.lconst 0, 1) := by decide +kernel
theorem dX2_peacefulTenths_70 : decode cX2_peacefulTenths 70 = .ok (.lstore 13, 2) := by decide +kernel
theorem dX2_peacefulTenths_72 : decode cX2_peacefulTenths 72 = .ok (.lload 13, 2) := by decide +kernel
theorem dX2_peacefulTenths_74 : decode cX2_peacefulTenths 74 = .ok (.aload_n 0, 1) := by decide +kernel
theorem dX2_peacefulTenths_75 : decode cX2_peacefulTenths 75 = .ok (.iload_n 1, 1) := by decide +kernel
theorem dX2_peacefulTenths_76 : decode cX2_peacefulTenths 76 = .ok (.iload 5, 2) := by decide +kernel
theorem dX2_peacefulTenths_78 : decode cX2_peacefulTenths 78 = .ok (.iload 11, 2) := by decide +kernel
theorem dX2_peacefulTenths_80 : decode cX2_peacefulTenths 80 = .ok (.invokevirtual 39, 3) := by decide +kernel
theorem dX2_peacefulTenths_83 : decode cX2_peacefulTenths 83 = .ok (.ifCond .eq 8, 3) := by decide +kernel
theorem dX2_peacefulTenths_86 : decode cX2_peacefulTenths 86 = .ok (.lload 8, 2) := by decide +kernel
theorem dX2_peacefulTenths_88 : decode cX2_peacefulTenths 88 = .ok (.goto 4, 3) := by decide +kernel
theorem dX2_peacefulTenths_91 : decode cX2_peacefulTenths 91 = .ok (.lconst 0, 1) := by decide +kernel
theorem dX2_peacefulTenths_92 : decode cX2_peacefulTenths 92 = .ok (.ladd, 1) := by decide +kernel
theorem dX2_peacefulTenths_93 : decode cX2_peacefulTenths 93 = .ok (.lstore 13, 2) := by decide +kernel
theorem dX2_peacefulTenths_95 : decode cX2_peacefulTenths 95 = .ok (.aload_n 0, 1) := by decide +kernel
theorem dX2_peacefulTenths_96 : decode cX2_peacefulTenths 96 = .ok (.iload_n 1, 1) := by decide +kernel
theorem dX2_peacefulTenths_97 : decode cX2_peacefulTenths 97 = .ok (.iload 4, 2) := by decide +kernel
theorem dX2_peacefulTenths_99 : decode cX2_peacefulTenths 99 = .ok (.iload 12, 2) := by decide +kernel
theorem dX2_peacefulTenths_101 : decode cX2_peacefulTenths 101 = .ok (.invokevirtual 39, 3) := by decide +kernel
theorem dX2_peacefulTenths_104 : decode cX2_peacefulTenths 104 = .ok (.ifCond .eq 8, 3) := by decide +kernel
theorem dX2_peacefulTenths_107 : decode cX2_peacefulTenths 107 = .ok (.lload 6, 2) := by decide +kernel
theorem dX2_peacefulTenths_109 : decode cX2_peacefulTenths 109 = .ok (.goto 4, 3) := by decide +kernel
theorem dX2_peacefulTenths_112 : decode cX2_peacefulTenths 112 = .ok (.lconst 0, 1) := by decide +kernel
theorem dX2_peacefulTenths_113 : decode cX2_peacefulTenths 113 = .ok (.lstore 15, 2) := by decide +kernel
theorem dX2_peacefulTenths_115 : decode cX2_peacefulTenths 115 = .ok (.lload 15, 2) := by decide +kernel
theorem dX2_peacefulTenths_117 : decode cX2_peacefulTenths 117 = .ok (.aload_n 0, 1) := by decide +kernel
theorem dX2_peacefulTenths_118 : decode cX2_peacefulTenths 118 = .ok (.iload_n 1, 1) := by decide +kernel
theorem dX2_peacefulTenths_119 : decode cX2_peacefulTenths 119 = .ok (.iload 5, 2) := by decide +kernel
theorem dX2_peacefulTenths_121 : decode cX2_peacefulTenths 121 = .ok (.iload 12, 2) := by decide +kernel
theorem dX2_peacefulTenths_123 : decode cX2_peacefulTenths 123 = .ok (.invokevirtual 39, 3) := by decide +kernel
theorem dX2_peacefulTenths_126 : decode cX2_peacefulTenths 126 = .ok (.ifCond .eq 8, 3) := by decide +kernel
theorem dX2_peacefulTenths_129 : decode cX2_peacefulTenths 129 = .ok (.lload 8, 2) := by decide +kernel
theorem dX2_peacefulTenths_131 : decode cX2_peacefulTenths 131 = .ok (.goto 4, 3) := by decide +kernel
theorem dX2_peacefulTenths_134 : decode cX2_peacefulTenths 134 = .ok (.lconst 0, 1) := by decide +kernel
theorem dX2_peacefulTenths_135 : decode cX2_peacefulTenths 135 = .ok (.ladd, 1) := by decide +kernel
theorem dX2_peacefulTenths_136 : decode cX2_peacefulTenths 136 = .ok (.lstore 15, 2) := by decide +kernel
theorem dX2_peacefulTenths_138 : decode cX2_peacefulTenths 138 = .ok (.iload 11, 2) := by decide +kernel
theorem dX2_peacefulTenths_140 : decode cX2_peacefulTenths 140 = .ok (.ifCond .ne 8, 3) := by decide +kernel
theorem dX2_peacefulTenths_143 : decode cX2_peacefulTenths 143 = .ok (.lload 13, 2) := by decide +kernel
theorem dX2_peacefulTenths_145 : decode cX2_peacefulTenths 145 = .ok (.goto 11, 3) := by decide +kernel
theorem dX2_peacefulTenths_148 : decode cX2_peacefulTenths 148 = .ok (.lload 13, 2) := by decide +kernel
theorem dX2_peacefulTenths_150 : decode cX2_peacefulTenths 150 = .ok (.bipush 10, 2) := by decide +kernel
theorem dX2_peacefulTenths_152 : decode cX2_peacefulTenths 152 = .ok (.iload_n 3, 1) := by decide +kernel
theorem dX2_peacefulTenths_153 : decode cX2_peacefulTenths 153 = .ok (.isub, 1) := by decide +kernel
theorem dX2_peacefulTenths_154 : decode cX2_peacefulTenths 154 = .ok (.i2l, 1) := by decide +kernel
theorem dX2_peacefulTenths_155 : decode cX2_peacefulTenths 155 = .ok (.lmul, 1) := by decide +kernel
theorem dX2_peacefulTenths_156 : decode cX2_peacefulTenths 156 = .ok (.lstore 6, 2) := by decide +kernel
theorem dX2_peacefulTenths_158 : decode cX2_peacefulTenths 158 = .ok (.iload 11, 2) := by decide +kernel
theorem dX2_peacefulTenths_160 : decode cX2_peacefulTenths 160 = .ok (.ifCond .ne 7, 3) := by decide +kernel
theorem dX2_peacefulTenths_163 : decode cX2_peacefulTenths 163 = .ok (.lconst 0, 1) := by decide +kernel
theorem dX2_peacefulTenths_164 : decode cX2_peacefulTenths 164 = .ok (.goto 8, 3) := by decide +kernel
theorem dX2_peacefulTenths_167 : decode cX2_peacefulTenths 167 = .ok (.lload 15, 2) := by decide +kernel
theorem dX2_peacefulTenths_169 : decode cX2_peacefulTenths 169 = .ok (.iload_n 3, 1) := by decide +kernel
theorem dX2_peacefulTenths_170 : decode cX2_peacefulTenths 170 = .ok (.i2l, 1) := by decide +kernel
theorem dX2_peacefulTenths_171 : decode cX2_peacefulTenths 171 = .ok (.lmul, 1) := by decide +kernel
theorem dX2_peacefulTenths_172 : decode cX2_peacefulTenths 172 = .ok (.lstore 8, 2) := by decide +kernel
theorem dX2_peacefulTenths_174 : decode cX2_peacefulTenths 174 = .ok (.iload 11, 2) := by decide +kernel
theorem dX2_peacefulTenths_176 : decode cX2_peacefulTenths 176 = .ok (.istore 4, 2) := by decide +kernel
theorem dX2_peacefulTenths_178 : decode cX2_peacefulTenths 178 = .ok (.iload 12, 2) := by decide +kernel
theorem dX2_peacefulTenths_180 : decode cX2_peacefulTenths 180 = .ok (.istore 5, 2) := by decide +kernel
theorem dX2_peacefulTenths_182 : decode cX2_peacefulTenths 182 = .ok (.iinc 10 1, 3) := by decide +kernel
theorem dX2_peacefulTenths_185 : decode cX2_peacefulTenths 185 = .ok (.goto (-170), 3) := by decide +kernel
theorem dX2_peacefulTenths_188 : decode cX2_peacefulTenths 188 = .ok (.lload 6, 2) := by decide +kernel
theorem dX2_peacefulTenths_190 : decode cX2_peacefulTenths 190 = .ok (.lload 8, 2) := by decide +kernel
theorem dX2_peacefulTenths_192 : decode cX2_peacefulTenths 192 = .ok (.ladd, 1) := by decide +kernel
theorem dX2_peacefulTenths_193 : decode cX2_peacefulTenths 193 = .ok (.lreturn, 1) := by decide +kernel
theorem dX3_init_0 : decode cX3_init 0 = .ok (.aload_n 0, 1) := by decide +kernel
theorem dX3_init_1 : decode cX3_init 1 = .ok (.invokespecial 3, 3) := by decide +kernel
theorem dX3_init_4 : decode cX3_init 4 = .ok (.aload_n 0, 1) := by decide +kernel
theorem dX3_init_5 : decode cX3_init 5 = .ok (.sipush 301, 3) := by decide +kernel
theorem dX3_init_8 : decode cX3_init 8 = .ok (.newarray .int, 2) := by decide +kernel
theorem dX3_init_10 : decode cX3_init 10 = .ok (.putfield 9, 3) := by decide +kernel
theorem dX3_init_13 : decode cX3_init 13 = .ok (.aload_n 0, 1) := by decide +kernel
theorem dX3_init_14 : decode cX3_init 14 = .ok (.sipush 301, 3) := by decide +kernel
theorem dX3_init_17 : decode cX3_init 17 = .ok (.newarray .boolean, 2) := by decide +kernel
theorem dX3_init_19 : decode cX3_init 19 = .ok (.putfield 15, 3) := by decide +kernel
theorem dX3_init_22 : decode cX3_init 22 = .ok (.iconst 1, 1) := by decide +kernel
theorem dX3_init_23 : decode cX3_init 23 = .ok (.istore_n 1, 1) := by decide +kernel
theorem dX3_init_24 : decode cX3_init 24 = .ok (.iload_n 1, 1) := by decide +kernel
theorem dX3_init_25 : decode cX3_init 25 = .ok (.iload_n 1, 1) := by decide +kernel
theorem dX3_init_26 : decode cX3_init 26 = .ok (.imul, 1) := by decide +kernel
theorem dX3_init_27 : decode cX3_init 27 = .ok (.sipush 300, 3) := by decide +kernel
theorem dX3_init_30 : decode cX3_init 30 = .ok (.if_icmp .gt 18, 3) := by decide +kernel
theorem dX3_init_33 : decode cX3_init 33 = .ok (.aload_n 0, 1) := by decide +kernel
theorem dX3_init_34 : decode cX3_init 34 = .ok (.getfield 15, 3) := by decide +kernel
theorem dX3_init_37 : decode cX3_init 37 = .ok (.iload_n 1, 1) := by decide +kernel
theorem dX3_init_38 : decode cX3_init 38 = .ok (.iload_n 1, 1) := by decide +kernel
theorem dX3_init_39 : decode cX3_init 39 = .ok (.imul, 1) := by decide +kernel
theorem dX3_init_40 : decode cX3_init 40 = .ok (.iconst 1, 1) := by decide +kernel
theorem dX3_init_41 : decode cX3_init 41 = .ok (.bastore, 1) := by decide +kernel
theorem dX3_init_42 : decode cX3_init 42 = .ok (.iinc 1 1, 3) := by decide +kernel
theorem dX3_init_45 : decode cX3_init 45 = .ok (.goto (-21), 3) := by decide +kernel
theorem dX3_init_48 : decode cX3_init 48 = .ok (.iconst 1, 1) := by decide +kernel
theorem dX3_init_49 : decode cX3_init 49 = .ok (.istore_n 1, 1) := by decide +kernel
theorem dX3_init_50 : decode cX3_init 50 = .ok (.iload_n 1, 1) := by decide +kernel
theorem dX3_init_51 : decode cX3_init 51 = .ok (.sipush 150, 3) := by decide +kernel
theorem dX3_init_54 : decode cX3_init 54 = .ok (.if_icmp .gt 37, 3) := by decide +kernel
theorem dX3_init_57 : decode cX3_init 57 = .ok (.iconst 2, 1) := by decide +kernel
theorem dX3_init_58 : decode cX3_init 58 = .ok (.iload_n 1, 1) := by decide +kernel
theorem dX3_init_59 : decode cX3_init 59 = .ok (.imul, 1) := by decide +kernel
theorem dX3_init_60 : decode cX3_init 60 = .ok (.istore_n 2, 1) := by decide +kernel
theorem dX3_init_61 : decode cX3_init 61 = .ok (.iload_n 2, 1) := by decide +kernel
theorem dX3_init_62 : decode cX3_init 62 = .ok (.sipush 300, 3) := by decide +kernel
theorem dX3_init_65 : decode cX3_init 65 = .ok (.if_icmp .gt 20, 3) := by decide +kernel
theorem dX3_init_68 : decode cX3_init 68 = .ok (.aload_n 0, 1) := by decide +kernel
theorem dX3_init_69 : decode cX3_init 69 = .ok (.getfield 9, 3) := by decide +kernel
theorem dX3_init_72 : decode cX3_init 72 = .ok (.iload_n 2, 1) := by decide +kernel
theorem dX3_init_73 : decode cX3_init 73 = .ok (.dup2, 1) := by decide +kernel
theorem dX3_init_74 : decode cX3_init 74 = .ok (.iaload, 1) := by decide +kernel
theorem dX3_init_75 : decode cX3_init 75 = .ok (.iload_n 1, 1) := by decide +kernel
theorem dX3_init_76 : decode cX3_init 76 = .ok (.iadd, 1) := by decide +kernel
theorem dX3_init_77 : decode cX3_init 77 = .ok (.iastore, 1) := by decide +kernel
theorem dX3_init_78 : decode cX3_init 78 = .ok (.iload_n 2, 1) := by decide +kernel
theorem dX3_init_79 : decode cX3_init 79 = .ok (.iload_n 1, 1) := by decide +kernel
theorem dX3_init_80 : decode cX3_init 80 = .ok (.iadd, 1) := by decide +kernel
theorem dX3_init_81 : decode cX3_init 81 = .ok (.istore_n 2, 1) := by decide +kernel
theorem dX3_init_82 : decode cX3_init 82 = .ok (.goto (-21), 3) := by decide +kernel
theorem dX3_init_85 : decode cX3_init 85 = .ok (.iinc 1 1, 3) := by decide +kernel
theorem dX3_init_88 : decode cX3_init 88 = .ok (.goto (-38), 3) := by decide +kernel
theorem dX3_init_91 : decode cX3_init 91 = .ok (.return_, 1) := by decide +kernel
theorem dX3_partsOf_0 : decode cX3_partsOf 0 = .ok (.iload_n 1, 1) := by decide +kernel
theorem dX3_partsOf_1 : decode cX3_partsOf 1 = .ok (.iconst 1, 1) := by decide +kernel
theorem dX3_partsOf_2 : decode cX3_partsOf 2 = .ok (.if_icmp .ge 5, 3) := by decide +kernel
theorem dX3_partsOf_5 : decode cX3_partsOf 5 = .ok (.iconst 0, 1) := by decide +kernel
theorem dX3_partsOf_6 : decode cX3_partsOf 6 = .ok (.ireturn, 1) := by decide +kernel
theorem dX3_partsOf_7 : decode cX3_partsOf 7 = .ok (.iload_n 1, 1) := by decide +kernel
theorem dX3_partsOf_8 : decode cX3_partsOf 8 = .ok (.sipush 300, 3) := by decide +kernel
theorem dX3_partsOf_11 : decode cX3_partsOf 11 = .ok (.if_icmp .gt 12, 3) := by decide +kernel
theorem dX3_partsOf_14 : decode cX3_partsOf 14 = .ok (.aload_n 0, 1) := by decide +kernel
theorem dX3_partsOf_15 : decode cX3_partsOf 15 = .ok (.getfield 9, 3) := by decide +kernel
theorem dX3_partsOf_18 : decode cX3_partsOf 18 = .ok (.iload_n 1, 1) := by decide +kernel
theorem dX3_partsOf_19 : decode cX3_partsOf 19 = .ok (.iaload, 1) := by decide +kernel
theorem dX3_partsOf_20 : decode cX3_partsOf 20 = .ok (.goto 7, 3) := by decide +kernel
theorem dX3_partsOf_23 : decode cX3_partsOf 23 = .ok (.iload_n 1, 1) := by decide +kernel
theorem dX3_partsOf_24 : decode cX3_partsOf 24 = .ok (.invokestatic 19, 3) := by decide +kernel
theorem dX3_partsOf_27 : decode cX3_partsOf 27 = .ok (.ireturn, 1) := by decide +kernel
theorem dX3_addParts_0 : decode cX3_addParts 0 = .ok (.iconst 1, 1) := by decide +kernel
theorem dX3_addParts_1 : decode cX3_addParts 1 = .ok (.istore_n 1, 1) := by decide +kernel
theorem dX3_addParts_2 : decode cX3_addParts 2 = .ok (.iconst 2, 1) := by decide +kernel
theorem dX3_addParts_3 : decode cX3_addParts 3 = .ok (.istore_n 2, 1) := by decide +kernel
theorem dX3_addParts_4 : decode cX3_addParts 4 = .ok (.iload_n 2, 1) := by decide +kernel
theorem dX3_addParts_5 : decode cX3_addParts 5 = .ok (.sipush 9999, 3) := by decide +kernel
theorem dX3_addParts_8 : decode cX3_addParts 8 = .ok (.if_icmp .gt 41, 3) := by decide +kernel
theorem dX3_addParts_11 : decode cX3_addParts 11 = .ok (.iload_n 2, 1) := by decide +kernel
theorem dX3_addParts_12 : decode cX3_addParts 12 = .ok (.iload_n 2, 1) := by decide +kernel
theorem dX3_addParts_13 : decode cX3_addParts 13 = .ok (.imul, 1) := by decide +kernel
theorem dX3_addParts_14 : decode cX3_addParts 14 = .ok (.iload_n 0, 1) := by decide +kernel
theorem dX3_addParts_15 : decode cX3_addParts 15 = .ok (.if_icmp .gt 34, 3) := by decide +kernel
theorem dX3_addParts_18 : decode cX3_addParts 18 = .ok (.iload_n 0, 1) := by decide +kernel
theorem dX3_addParts_19 : decode cX3_addParts 19 = .ok (.iload_n 2, 1) := by decide +kernel
theorem dX3_addParts_20 : decode cX3_addParts 20 = .ok (.irem, 1) := by decide +kernel
theorem dX3_addParts_21 : decode cX3_addParts 21 = .ok (.ifCond .ne 22, 3) := by decide +kernel
theorem dX3_addParts_24 : decode cX3_addParts 24 = .ok (.iload_n 0, 1) := by decide +kernel
theorem dX3_addParts_25 : decode cX3_addParts 25 = .ok (.iload_n 2, 1) := by decide +kernel
theorem dX3_addParts_26 : decode cX3_addParts 26 = .ok (.idiv, 1) := by decide +kernel
theorem dX3_addParts_27 : decode cX3_addParts 27 = .ok (.istore_n 3, 1) := by decide +kernel
theorem dX3_addParts_28 : decode cX3_addParts 28 = .ok (.iload_n 1, 1) := by decide +kernel
theorem dX3_addParts_29 : decode cX3_addParts 29 = .ok (.iload_n 3, 1) := by decide +kernel
theorem dX3_addParts_30 : decode cX3_addParts 30 = .ok (.iload_n 2, 1) := by decide +kernel
theorem dX3_addParts_31 : decode cX3_addParts 31 = .ok (.if_icmp .ne 7, 3) := by decide +kernel
theorem dX3_addParts_34 : decode cX3_addParts 34 = .ok (.iload_n 2, 1) := by decide +kernel
theorem dX3_addParts_35 : decode cX3_addParts 35 = .ok (.goto 6, 3) := by decide +kernel
theorem dX3_addParts_38 : decode cX3_addParts 38 = .ok (.iload_n 2, 1) := by decide +kernel
theorem dX3_addParts_39 : decode cX3_addParts 39 = .ok (.iload_n 3, 1) := by decide +kernel
theorem dX3_addParts_40 : decode cX3_addParts 40 = .ok (.iadd, 1) := by decide +kernel
theorem dX3_addParts_41 : decode cX3_addParts 41 = .ok (.iadd, 1) := by decide +kernel
theorem dX3_addParts_42 : decode cX3_addParts 42 = .ok (.istore_n 1, 1) := by decide +kernel
theorem dX3_addParts_43 : decode cX3_addParts 43 = .ok (.iinc 2 1, 3) := by decide +kernel
theorem dX3_addParts_46 : decode cX3_addParts 46 = .ok (.goto (-42), 3) := by decide +kernel
theorem dX3_addParts_49 : decode cX3_addParts 49 = .ok (.iload_n 1, 1) := by decide +kernel
theorem dX3_addParts_50 : decode cX3_addParts 50 = .ok (.ireturn, 1) := by decide +kernel
theorem dX3_isPrime_0 : decode cX3_isPrime 0 = .ok (.iload_n 1, 1) := by decide +kernel
theorem dX3_isPrime_1 : decode cX3_isPrime 1 = .ok (.ifCond .le 26, 3) := by decide +kernel
theorem dX3_isPrime_4 : decode cX3_isPrime 4 = .ok (.iload_n 1, 1) := by decide +kernel
theorem dX3_isPrime_5 : decode cX3_isPrime 5 = .ok (.aload_n 0, 1) := by decide +kernel
theorem dX3_isPrime_6 : decode cX3_isPrime 6 = .ok (.getfield 9, 3) := by decide +kernel
theorem dX3_isPrime_9 : decode cX3_isPrime 9 = .ok (.arraylength, 1) := by decide +kernel
theorem dX3_isPrime_10 : decode cX3_isPrime 10 = .ok (.if_icmp .ge 17, 3) := by decide +kernel
theorem dX3_isPrime_13 : decode cX3_isPrime 13 = .ok (.aload_n 0, 1) := by decide +kernel
theorem dX3_isPrime_14 : decode cX3_isPrime 14 = .ok (.getfield 9, 3) := by decide +kernel
theorem dX3_isPrime_17 : decode cX3_isPrime 17 = .ok (.iload_n 1, 1) := by decide +kernel
theorem dX3_isPrime_18 : decode cX3_isPrime 18 = .ok (.iaload, 1) := by decide +kernel
theorem dX3_isPrime_19 : decode cX3_isPrime 19 = .ok (.iconst 1, 1) := by decide +kernel
theorem dX3_isPrime_20 : decode cX3_isPrime 20 = .ok (.if_icmp .ne 7, 3) := by decide +kernel
theorem dX3_isPrime_23 : decode cX3_isPrime 23 = .ok (.iconst 1, 1) := by decide +kernel
theorem dX3_isPrime_24 : decode cX3_isPrime 24 = .ok (.goto 4, 3) := by decide +kernel
theorem dX3_isPrime_27 : decode cX3_isPrime 27 = .ok (.iconst 0, 1) := by decide +kernel
theorem dX3_isPrime_28 : decode cX3_isPrime 28 = .ok (.ireturn, 1) := by decide +kernel
theorem dX3_isSquare_0 : decode cX3_isSquare 0 = .ok (.iload_n 1, 1) := by decide +kernel
theorem dX3_isSquare_1 : decode cX3_isSquare 1 = .ok (.ifCond .le 25, 3) := by decide +kernel
theorem dX3_isSquare_4 : decode cX3_isSquare 4 = .ok (.iload_n 1, 1) := by decide +kernel
theorem dX3_isSquare_5 : decode cX3_isSquare 5 = .ok (.aload_n 0, 1) := by decide +kernel
theorem dX3_isSquare_6 : decode cX3_isSquare 6 = .ok (.getfield 15, 3) := by decide +kernel
theorem dX3_isSquare_9 : decode cX3_isSquare 9 = .ok (.arraylength, 1) := by decide +kernel
theorem dX3_isSquare_10 : decode cX3_isSquare 10 = .ok (.if_icmp .ge 16, 3) := by decide +kernel
theorem dX3_isSquare_13 : decode cX3_isSquare 13 = .ok (.aload_n 0, 1) := by decide +kernel
theorem dX3_isSquare_14 : decode cX3_isSquare 14 = .ok (.getfield 15, 3) := by decide +kernel
theorem dX3_isSquare_17 : decode cX3_isSquare 17 = .ok (.iload_n 1, 1) := by decide +kernel
theorem dX3_isSquare_18 : decode cX3_isSquare 18 = .ok (.baload, 1) := by decide +kernel
theorem dX3_isSquare_19 : decode cX3_isSquare 19 = .ok (.ifCond .eq 7, 3) := by decide +kernel
theorem dX3_isSquare_22 : decode cX3_isSquare 22 = .ok (.iconst 1, 1) := by decide +kernel
theorem dX3_isSquare_23 : decode cX3_isSquare 23 = .ok (.goto 4, 3) := by decide +kernel
theorem dX3_isSquare_26 : decode cX3_isSquare 26 = .ok (.iconst 0, 1) := by decide +kernel
theorem dX3_isSquare_27 : decode cX3_isSquare 27 = .ok (.ireturn, 1) := by decide +kernel
theorem dX3_areFriends_0 : decode cX3_areFriends 0 = .ok (.iload_n 1, 1) := by decide +kernel
theorem dX3_areFriends_1 : decode cX3_areFriends 1 = .ok (.invokestatic 23, 3) := by decide +kernel
theorem dX3_areFriends_4 : decode cX3_areFriends 4 = .ok (.ifCond .eq 34, 3) := by decide +kernel
theorem dX3_areFriends_7 : decode cX3_areFriends 7 = .ok (.iload_n 2, 1) := by decide +kernel
theorem dX3_areFriends_8 : decode cX3_areFriends 8 = .ok (.invokestatic 23, 3) := by decide +kernel
theorem dX3_areFriends_11 : decode cX3_areFriends 11 = .ok (.ifCond .eq 27, 3) := by decide +kernel
theorem dX3_areFriends_14 : decode cX3_areFriends 14 = .ok (.aload_n 0, 1) := by decide +kernel
theorem dX3_areFriends_15 : decode cX3_areFriends 15 = .ok (.getfield 9, 3) := by decide +kernel
theorem dX3_areFriends_18 : decode cX3_areFriends 18 = .ok (.iload_n 1, 1) := by decide +kernel
theorem dX3_areFriends_19 : decode cX3_areFriends 19 = .ok (.iaload, 1) := by decide +kernel
theorem dX3_areFriends_20 : decode cX3_areFriends 20 = .ok (.iload_n 2, 1) := by decide +kernel
theorem dX3_areFriends_21 : decode cX3_areFriends 21 = .ok (.if_icmp .ne 17, 3) := by decide +kernel
theorem dX3_areFriends_24 : decode cX3_areFriends 24 = .ok (.aload_n 0, 1) := by decide +kernel
theorem dX3_areFriends_25 : decode cX3_areFriends 25 = .ok (.getfield 9, 3) := by decide +kernel
theorem dX3_areFriends_28 : decode cX3_areFriends 28 = .ok (.iload_n 2, 1) := by decide +kernel
theorem dX3_areFriends_29 : decode cX3_areFriends 29 = .ok (.iaload, 1) := by decide +kernel
theorem dX3_areFriends_30 : decode cX3_areFriends 30 = .ok (.iload_n 1, 1) := by decide +kernel
theorem dX3_areFriends_31 : decode cX3_areFriends 31 = .ok (.if_icmp .ne 7, 3) := by decide +kernel
theorem dX3_areFriends_34 : decode cX3_areFriends 34 = .ok (.iconst 1, 1) := by decide +kernel
theorem dX3_areFriends_35 : decode cX3_areFriends 35 = .ok (.goto 4, 3) := by decide +kernel
theorem dX3_areFriends_38 : decode cX3_areFriends 38 = .ok (.iconst 0, 1) := by decide +kernel
theorem dX3_areFriends_39 : decode cX3_areFriends 39 = .ok (.ireturn, 1) := by decide +kernel
theorem dX4_init_0 : decode cX4_init 0 = .ok (.aload_n 0, 1) := by decide +kernel
theorem dX4_init_1 : decode cX4_init 1 = .ok (.invokespecial 3, 3) := by decide +kernel
theorem dX4_init_4 : decode cX4_init 4 = .ok (.aload_n 0, 1) := by decide +kernel
theorem dX4_init_5 : decode cX4_init 5 = .ok (.bipush 8, 2) := by decide +kernel
theorem dX4_init_7 : decode cX4_init 7 = .ok (.newarray .int, 2) := by decide +kernel
theorem dX4_init_9 : decode cX4_init 9 = .ok (.putfield 9, 3) := by decide +kernel
theorem dX4_init_12 : decode cX4_init 12 = .ok (.aload_n 0, 1) := by decide +kernel
theorem dX4_init_13 : decode cX4_init 13 = .ok (.bipush 8, 2) := by decide +kernel
theorem dX4_init_15 : decode cX4_init 15 = .ok (.newarray .int, 2) := by decide +kernel
theorem dX4_init_17 : decode cX4_init 17 = .ok (.putfield 15, 3) := by decide +kernel
theorem dX4_init_20 : decode cX4_init 20 = .ok (.aload_n 0, 1) := by decide +kernel
theorem dX4_init_21 : decode cX4_init 21 = .ok (.bipush 8, 2) := by decide +kernel
theorem dX4_init_23 : decode cX4_init 23 = .ok (.newarray .int, 2) := by decide +kernel
theorem dX4_init_25 : decode cX4_init 25 = .ok (.putfield 18, 3) := by decide +kernel
theorem dX4_init_28 : decode cX4_init 28 = .ok (.aload_n 0, 1) := by decide +kernel
theorem dX4_init_29 : decode cX4_init 29 = .ok (.sipush 2048, 3) := by decide +kernel
theorem dX4_init_32 : decode cX4_init 32 = .ok (.newarray .int, 2) := by decide +kernel
theorem dX4_init_34 : decode cX4_init 34 = .ok (.putfield 21, 3) := by decide +kernel
theorem dX4_init_37 : decode cX4_init 37 = .ok (.aload_n 0, 1) := by decide +kernel
theorem dX4_init_38 : decode cX4_init 38 = .ok (.sipush 256, 3) := by decide +kernel
theorem dX4_init_41 : decode cX4_init 41 = .ok (.newarray .int, 2) := by decide +kernel
theorem dX4_init_43 : decode cX4_init 43 = .ok (.putfield 24, 3) := by decide +kernel
theorem dX4_init_46 : decode cX4_init 46 = .ok (.aload_n 0, 1) := by decide +kernel
theorem dX4_init_47 : decode cX4_init 47 = .ok (.aload_n 1, 1) := by decide +kernel
theorem dX4_init_48 : decode cX4_init 48 = .ok (.putfield 27, 3) := by decide +kernel
theorem dX4_init_51 : decode cX4_init 51 = .ok (.return_, 1) := by decide +kernel
theorem dX4_bothOf_0 : decode cX4_bothOf 0 = .ok (.iload_n 0, 1) := by decide +kernel
theorem dX4_bothOf_1 : decode cX4_bothOf 1 = .ok (.iload_n 0, 1) := by decide +kernel
theorem dX4_bothOf_2 : decode cX4_bothOf 2 = .ok (.iconst 1, 1) := by decide +kernel
theorem dX4_bothOf_3 : decode cX4_bothOf 3 = .ok (.ishl, 1) := by decide +kernel
theorem dX4_bothOf_4 : decode cX4_bothOf 4 = .ok (.ior, 1) := by decide +kernel
theorem dX4_bothOf_5 : decode cX4_bothOf 5 = .ok (.ireturn, 1) := by decide +kernel
theorem dX4_fewestAway_0 : decode cX4_fewestAway 0 = .ok (.sipush 255, 3) := by decide +kernel
theorem dX4_fewestAway_3 : decode cX4_fewestAway 3 = .ok (.istore_n 1, 1) := by decide +kernel
theorem dX4_fewestAway_4 : decode cX4_fewestAway 4 = .ok (.iconst 0, 1) := by decide +kernel
theorem dX4_fewestAway_5 : decode cX4_fewestAway 5 = .ok (.istore_n 2, 1) := by decide +kernel
theorem dX4_fewestAway_6 : decode cX4_fewestAway 6 = .ok (.iload_n 2, 1) := by decide +kernel
theorem dX4_fewestAway_7 : decode cX4_fewestAway 7 = .ok (.sipush 256, 3) := by decide +kernel
theorem dX4_fewestAway_10 : decode cX4_fewestAway 10 = .ok (.if_icmp .ge 44, 3) := by decide +kernel
theorem dX4_fewestAway_13 : decode cX4_fewestAway 13 = .ok (.iload_n 0, 1) := by decide +kernel
theorem dX4_fewestAway_14 : decode cX4_fewestAway 14 = .ok (.iload_n 2, 1) := by decide +kernel
theorem dX4_fewestAway_15 : decode cX4_fewestAway 15 = .ok (.iload_n 2, 1) := by decide +kernel
theorem dX4_fewestAway_16 : decode cX4_fewestAway 16 = .ok (.iconst 1, 1) := by decide +kernel
theorem dX4_fewestAway_17 : decode cX4_fewestAway 17 = .ok (.ishr, 1) := by decide +kernel
theorem dX4_fewestAway_18 : decode cX4_fewestAway 18 = .ok (.ior, 1) := by decide +kernel
theorem dX4_fewestAway_19 : decode cX4_fewestAway 19 = .ok (.iconst (-1), 1) := by decide +kernel
theorem dX4_fewestAway_20 : decode cX4_fewestAway 20 = .ok (.ixor, 1) := by decide +kernel
theorem dX4_fewestAway_21 : decode cX4_fewestAway 21 = .ok (.iand, 1) := by decide +kernel
theorem dX4_fewestAway_22 : decode cX4_fewestAway 22 = .ok (.ifCond .ne 7, 3) := by decide +kernel
theorem dX4_fewestAway_25 : decode cX4_fewestAway 25 = .ok (.iconst 1, 1) := by decide +kernel
theorem dX4_fewestAway_26 : decode cX4_fewestAway 26 = .ok (.goto 4, 3) := by decide +kernel
theorem dX4_fewestAway_29 : decode cX4_fewestAway 29 = .ok (.iconst 0, 1) := by decide +kernel
theorem dX4_fewestAway_30 : decode cX4_fewestAway 30 = .ok (.istore_n 3, 1) := by decide +kernel
theorem dX4_fewestAway_31 : decode cX4_fewestAway 31 = .ok (.iload_n 3, 1) := by decide +kernel
theorem dX4_fewestAway_32 : decode cX4_fewestAway 32 = .ok (.ifCond .eq 16, 3) := by decide +kernel
theorem dX4_fewestAway_35 : decode cX4_fewestAway 35 = .ok (.iload_n 2, 1) := by decide +kernel
theorem dX4_fewestAway_36 : decode cX4_fewestAway 36 = .ok (.invokestatic 31, 3) := by decide +kernel
theorem dX4_fewestAway_39 : decode cX4_fewestAway 39 = .ok (.iload_n 1, 1) := by decide +kernel
theorem dX4_fewestAway_40 : decode cX4_fewestAway 40 = .ok (.invokestatic 31, 3) := by decide +kernel
theorem dX4_fewestAway_43 : decode cX4_fewestAway 43 = .ok (.if_icmp .ge 5, 3) := by decide +kernel
theorem dX4_fewestAway_46 : decode cX4_fewestAway 46 = .ok (.iload_n 2, 1) := by decide +kernel
theorem dX4_fewestAway_47 : decode cX4_fewestAway 47 = .ok (.istore_n 1, 1) := by decide +kernel
theorem dX4_fewestAway_48 : decode cX4_fewestAway 48 = .ok (.iinc 2 1, 3) := by decide +kernel
theorem dX4_fewestAway_51 : decode cX4_fewestAway 51 = .ok (.goto (-45), 3) := by decide +kernel
theorem dX4_fewestAway_54 : decode cX4_fewestAway 54 = .ok (.iload_n 1, 1) := by decide +kernel
theorem dX4_fewestAway_55 : decode cX4_fewestAway 55 = .ok (.ireturn, 1) := by decide +kernel
theorem dX4_settle_0 : decode cX4_settle 0 = .ok (.aload_n 0, 1) := by decide +kernel
theorem dX4_settle_1 : decode cX4_settle 1 = .ok (.aload_n 2, 1) := by decide +kernel
theorem dX4_settle_2 : decode cX4_settle 2 = .ok (.invokevirtual 37, 3) := by decide +kernel
theorem dX4_settle_5 : decode cX4_settle 5 = .ok (.iconst 0, 1) := by decide +kernel
theorem dX4_settle_6 : decode cX4_settle 6 = .ok (.istore_n 3, 1) := by decide +kernel
theorem dX4_settle_7 : decode cX4_settle 7 = .ok (.iload_n 3, 1) := by decide +kernel
theorem dX4_settle_8 : decode cX4_settle 8 = .ok (.aload_n 0, 1) := by decide +kernel
theorem dX4_settle_9 : decode cX4_settle 9 = .ok (.getfield 41, 3) := by decide +kernel
theorem dX4_settle_12 : decode cX4_settle 12 = .ok (.if_icmp .ge 71, 3) := by decide +kernel
theorem dX4_settle_15 : decode cX4_settle 15 = .ok (.aload_n 0, 1) := by decide +kernel
theorem dX4_settle_16 : decode cX4_settle 16 = .ok (.getfield 18, 3) := by decide +kernel
theorem dX4_settle_19 : decode cX4_settle 19 = .ok (.iload_n 3, 1) := by decide +kernel
theorem dX4_settle_20 : decode cX4_settle 20 = .ok (.iconst 0, 1) := by decide +kernel
theorem dX4_settle_21 : decode cX4_settle 21 = .ok (.iastore, 1) := by decide +kernel
theorem dX4_settle_22 : decode cX4_settle 22 = .ok (.iconst 0, 1) := by decide +kernel
theorem dX4_settle_23 : decode cX4_settle 23 = .ok (.istore 4, 2) := by decide +kernel
theorem dX4_settle_25 : decode cX4_settle 25 = .ok (.iload 4, 2) := by decide +kernel
theorem dX4_settle_27 : decode cX4_settle 27 = .ok (.aload_n 0, 1) := by decide +kernel
theorem dX4_settle_28 : decode cX4_settle 28 = .ok (.getfield 41, 3) := by decide +kernel
theorem dX4_settle_31 : decode cX4_settle 31 = .ok (.if_icmp .ge 46, 3) := by decide +kernel
theorem dX4_settle_34 : decode cX4_settle 34 = .ok (.aload_n 0, 1) := by decide +kernel
theorem dX4_settle_35 : decode cX4_settle 35 = .ok (.getfield 27, 3) := by decide +kernel
theorem dX4_settle_38 : decode cX4_settle 38 = .ok (.iload_n 1, 1) := by decide +kernel
theorem dX4_settle_39 : decode cX4_settle 39 = .ok (.aload_n 0, 1) := by decide +kernel
theorem dX4_settle_40 : decode cX4_settle 40 = .ok (.getfield 9, 3) := by decide +kernel
theorem dX4_settle_43 : decode cX4_settle 43 = .ok (.iload_n 3, 1) := by decide +kernel
theorem dX4_settle_44 : decode cX4_settle 44 = .ok (.iaload, 1) := by decide +kernel
theorem dX4_settle_45 : decode cX4_settle 45 = .ok (.aload_n 0, 1) := by decide +kernel
theorem dX4_settle_46 : decode cX4_settle 46 = .ok (.getfield 9, 3) := by decide +kernel
theorem dX4_settle_49 : decode cX4_settle 49 = .ok (.iload 4, 2) := by decide +kernel
theorem dX4_settle_51 : decode cX4_settle 51 = .ok (.iaload, 1) := by decide +kernel
theorem dX4_settle_52 : decode cX4_settle 52 = .ok (.invokevirtual 45, 3) := by decide +kernel
theorem dX4_settle_55 : decode cX4_settle 55 = .ok (.ifCond .eq 16, 3) := by decide +kernel
theorem dX4_settle_58 : decode cX4_settle 58 = .ok (.aload_n 0, 1) := by decide +kernel
theorem dX4_settle_59 : decode cX4_settle 59 = .ok (.getfield 18, 3) := by decide +kernel
theorem dX4_settle_62 : decode cX4_settle 62 = .ok (.iload_n 3, 1) := by decide +kernel
theorem dX4_settle_63 : decode cX4_settle 63 = .ok (.dup2, 1) := by decide +kernel
theorem dX4_settle_64 : decode cX4_settle 64 = .ok (.iaload, 1) := by decide +kernel
theorem dX4_settle_65 : decode cX4_settle 65 = .ok (.iconst 1, 1) := by decide +kernel
theorem dX4_settle_66 : decode cX4_settle 66 = .ok (.iload 4, 2) := by decide +kernel
theorem dX4_settle_68 : decode cX4_settle 68 = .ok (.ishl, 1) := by decide +kernel
theorem dX4_settle_69 : decode cX4_settle 69 = .ok (.ior, 1) := by decide +kernel
theorem dX4_settle_70 : decode cX4_settle 70 = .ok (.iastore, 1) := by decide +kernel
theorem dX4_settle_71 : decode cX4_settle 71 = .ok (.iinc 4 1, 3) := by decide +kernel
theorem dX4_settle_74 : decode cX4_settle 74 = .ok (.goto (-49), 3) := by decide +kernel
theorem dX4_settle_77 : decode cX4_settle 77 = .ok (.iinc 3 1, 3) := by decide +kernel
theorem dX4_settle_80 : decode cX4_settle 80 = .ok (.goto (-73), 3) := by decide +kernel
theorem dX4_settle_83 : decode cX4_settle 83 = .ok (.return_, 1) := by decide +kernel
theorem dX4_gather_0 : decode cX4_gather 0 = .ok (.aload_n 0, 1) := by decide +kernel
theorem dX4_gather_1 : decode cX4_gather 1 = .ok (.iconst 0, 1) := by decide +kernel
theorem dX4_gather_2 : decode cX4_gather 2 = .ok (.putfield 41, 3) := by decide +kernel
theorem dX4_gather_5 : decode cX4_gather 5 = .ok (.iconst 0, 1) := by decide +kernel
theorem dX4_gather_6 : decode cX4_gather 6 = .ok (.istore_n 2, 1) := by decide +kernel
theorem dX4_gather_7 : decode cX4_gather 7 = .ok (.iload_n 2, 1) := by decide +kernel
theorem dX4_gather_8 : decode cX4_gather 8 = .ok (.aload_n 1, 1) := by decide +kernel
theorem dX4_gather_9 : decode cX4_gather 9 = .ok (.arraylength, 1) := by decide +kernel
theorem dX4_gather_10 : decode cX4_gather 10 = .ok (.if_icmp .ge 53, 3) := by decide +kernel
theorem dX4_gather_13 : decode cX4_gather 13 = .ok (.iload_n 2, 1) := by decide +kernel
theorem dX4_gather_14 : decode cX4_gather 14 = .ok (.bipush 8, 2) := by decide +kernel
theorem dX4_gather_16 : decode cX4_gather 16 = .ok (.if_icmp .ge 47, 3) := by decide +kernel
theorem dX4_gather_19 : decode cX4_gather 19 = .ok (.aload_n 1, 1) := by decide +kernel
theorem dX4_gather_20 : decode cX4_gather 20 = .ok (.iload_n 2, 1) := by decide +kernel
theorem dX4_gather_21 : decode cX4_gather 21 = .ok (.iaload, 1) := by decide +kernel
theorem dX4_gather_22 : decode cX4_gather 22 = .ok (.ifCond .le 35, 3) := by decide +kernel
theorem dX4_gather_25 : decode cX4_gather 25 = .ok (.aload_n 0, 1) := by decide +kernel
theorem dX4_gather_26 : decode cX4_gather 26 = .ok (.getfield 15, 3) := by decide +kernel
theorem dX4_gather_29 : decode cX4_gather 29 = .ok (.aload_n 0, 1) := by decide +kernel
theorem dX4_gather_30 : decode cX4_gather 30 = .ok (.getfield 41, 3) := by decide +kernel
theorem dX4_gather_33 : decode cX4_gather 33 = .ok (.iload_n 2, 1) := by decide +kernel
theorem dX4_gather_34 : decode cX4_gather 34 = .ok (.iastore, 1) := by decide +kernel
theorem dX4_gather_35 : decode cX4_gather 35 = .ok (.aload_n 0, 1) := by decide +kernel
theorem dX4_gather_36 : decode cX4_gather 36 = .ok (.getfield 9, 3) := by decide +kernel
theorem dX4_gather_39 : decode cX4_gather 39 = .ok (.aload_n 0, 1) := by decide +kernel
theorem dX4_gather_40 : decode cX4_gather 40 = .ok (.getfield 41, 3) := by decide +kernel
theorem dX4_gather_43 : decode cX4_gather 43 = .ok (.aload_n 1, 1) := by decide +kernel
theorem dX4_gather_44 : decode cX4_gather 44 = .ok (.iload_n 2, 1) := by decide +kernel
theorem dX4_gather_45 : decode cX4_gather 45 = .ok (.iaload, 1) := by decide +kernel
theorem dX4_gather_46 : decode cX4_gather 46 = .ok (.iastore, 1) := by decide +kernel
theorem dX4_gather_47 : decode cX4_gather 47 = .ok (.aload_n 0, 1) := by decide +kernel
theorem dX4_gather_48 : decode cX4_gather 48 = .ok (.dup, 1) := by decide +kernel
theorem dX4_gather_49 : decode cX4_gather 49 = .ok (.getfield 41, 3) := by decide +kernel
theorem dX4_gather_52 : decode cX4_gather 52 = .ok (.iconst 1, 1) := by decide +kernel
theorem dX4_gather_53 : decode cX4_gather 53 = .ok (.iadd, 1) := by decide +kernel
theorem dX4_gather_54 : decode cX4_gather 54 = .ok (.putfield 41, 3) := by decide +kernel
theorem dX4_gather_57 : decode cX4_gather 57 = .ok (.iinc 2 1, 3) := by decide +kernel
theorem dX4_gather_60 : decode cX4_gather 60 = .ok (.goto (-53), 3) := by decide +kernel
theorem dX4_gather_63 : decode cX4_gather 63 = .ok (.return_, 1) := by decide +kernel
theorem dX4_comers_0 : decode cX4_comers 0 = .ok (.iload_n 1, 1) := by decide +kernel
theorem dX4_comers_1 : decode cX4_comers 1 = .ok (.invokestatic 31, 3) := by decide +kernel
theorem dX4_comers_4 : decode cX4_comers 4 = .ok (.istore_n 3, 1) := by decide +kernel
theorem dX4_comers_5 : decode cX4_comers 5 = .ok (.iconst 1, 1) := by decide +kernel
theorem dX4_comers_6 : decode cX4_comers 6 = .ok (.aload_n 0, 1) := by decide +kernel
theorem dX4_comers_7 : decode cX4_comers 7 = .ok (.getfield 41, 3) := by decide +kernel
theorem dX4_comers_10 : decode cX4_comers 10 = .ok (.ishl, 1) := by decide +kernel
theorem dX4_comers_11 : decode cX4_comers 11 = .ok (.iconst 1, 1) := by decide +kernel
theorem dX4_comers_12 : decode cX4_comers 12 = .ok (.isub, 1) := by decide +kernel
theorem dX4_comers_13 : decode cX4_comers 13 = .ok (.iload_n 1, 1) := by decide +kernel
theorem dX4_comers_14 : decode cX4_comers 14 = .ok (.iconst (-1), 1) := by decide +kernel
theorem dX4_comers_15 : decode cX4_comers 15 = .ok (.ixor, 1) := by decide +kernel
theorem dX4_comers_16 : decode cX4_comers 16 = .ok (.iand, 1) := by decide +kernel
theorem dX4_comers_17 : decode cX4_comers 17 = .ok (.istore 4, 2) := by decide +kernel
theorem dX4_comers_19 : decode cX4_comers 19 = .ok (.iload_n 3, 1) := by decide +kernel
theorem dX4_comers_20 : decode cX4_comers 20 = .ok (.ifCond .le 34, 3) := by decide +kernel
theorem dX4_comers_23 : decode cX4_comers 23 = .ok (.iload_n 3, 1) := by decide +kernel
theorem dX4_comers_24 : decode cX4_comers 24 = .ok (.aload_n 0, 1) := by decide +kernel
theorem dX4_comers_25 : decode cX4_comers 25 = .ok (.getfield 41, 3) := by decide +kernel
theorem dX4_comers_28 : decode cX4_comers 28 = .ok (.if_icmp .ge 26, 3) := by decide +kernel
theorem dX4_comers_31 : decode cX4_comers 31 = .ok (.aload_n 0, 1) := by decide +kernel
theorem dX4_comers_32 : decode cX4_comers 32 = .ok (.getfield 15, 3) := by decide +kernel
theorem dX4_comers_35 : decode cX4_comers 35 = .ok (.iload_n 3, 1) := by decide +kernel
theorem dX4_comers_36 : decode cX4_comers 36 = .ok (.iconst 1, 1) := by decide +kernel
theorem dX4_comers_37 : decode cX4_comers 37 = .ok (.isub, 1) := by decide +kernel
theorem dX4_comers_38 : decode cX4_comers 38 = .ok (.iaload, 1) := by decide +kernel
theorem dX4_comers_39 : decode cX4_comers 39 = .ok (.iconst 1, 1) := by decide +kernel
theorem dX4_comers_40 : decode cX4_comers 40 = .ok (.iadd, 1) := by decide +kernel
theorem dX4_comers_41 : decode cX4_comers 41 = .ok (.aload_n 0, 1) := by decide +kernel
theorem dX4_comers_42 : decode cX4_comers 42 = .ok (.getfield 15, 3) := by decide +kernel
theorem dX4_comers_45 : decode cX4_comers 45 = .ok (.iload_n 3, 1) := by decide +kernel
theorem dX4_comers_46 : decode cX4_comers 46 = .ok (.iaload, 1) := by decide +kernel
theorem dX4_comers_47 : decode cX4_comers 47 = .ok (.if_icmp .ne 7, 3) := by decide +kernel
theorem dX4_comers_50 : decode cX4_comers 50 = .ok (.iconst 1, 1) := by decide +kernel
theorem dX4_comers_51 : decode cX4_comers 51 = .ok (.goto 4, 3) := by decide +kernel
theorem dX4_comers_54 : decode cX4_comers 54 = .ok (.iconst 0, 1) := by decide +kernel
theorem dX4_comers_55 : decode cX4_comers 55 = .ok (.istore 5, 2) := by decide +kernel
theorem dX4_comers_57 : decode cX4_comers 57 = .ok (.iload 5, 2) := by decide +kernel
theorem dX4_comers_59 : decode cX4_comers 59 = .ok (.ifCond .eq 15, 3) := by decide +kernel
theorem dX4_comers_62 : decode cX4_comers 62 = .ok (.iload 4, 2) := by decide +kernel
theorem dX4_comers_64 : decode cX4_comers 64 = .ok (.aload_n 0, 1) := by decide +kernel
theorem dX4_comers_65 : decode cX4_comers 65 = .ok (.getfield 18, 3) := by decide +kernel
theorem dX4_comers_68 : decode cX4_comers 68 = .ok (.iload_n 2, 1) := by decide +kernel
theorem dX4_comers_69 : decode cX4_comers 69 = .ok (.iaload, 1) := by decide +kernel
theorem dX4_comers_70 : decode cX4_comers 70 = .ok (.iand, 1) := by decide +kernel
theorem dX4_comers_71 : decode cX4_comers 71 = .ok (.goto 5, 3) := by decide +kernel
theorem dX4_comers_74 : decode cX4_comers 74 = .ok (.iload 4, 2) := by decide +kernel
theorem dX4_comers_76 : decode cX4_comers 76 = .ok (.ireturn, 1) := by decide +kernel
theorem dX4_countOrders_0 : decode cX4_countOrders 0 = .ok (.iconst 1, 1) := by decide +kernel
theorem dX4_countOrders_1 : decode cX4_countOrders 1 = .ok (.aload_n 0, 1) := by decide +kernel
theorem dX4_countOrders_2 : decode cX4_countOrders 2 = .ok (.getfield 41, 3) := by decide +kernel
theorem dX4_countOrders_5 : decode cX4_countOrders 5 = .ok (.ishl, 1) := by decide +kernel
theorem dX4_countOrders_6 : decode cX4_countOrders 6 = .ok (.iconst 1, 1) := by decide +kernel
theorem dX4_countOrders_7 : decode cX4_countOrders 7 = .ok (.isub, 1) := by decide +kernel
theorem dX4_countOrders_8 : decode cX4_countOrders 8 = .ok (.istore_n 1, 1) := by decide +kernel
theorem dX4_countOrders_9 : decode cX4_countOrders 9 = .ok (.iload_n 1, 1) := by decide +kernel
theorem dX4_countOrders_10 : decode cX4_countOrders 10 = .ok (.istore_n 2, 1) := by decide +kernel
theorem dX4_countOrders_11 : decode cX4_countOrders 11 = .ok (.iload_n 2, 1) := by decide +kernel
theorem dX4_countOrders_12 : decode cX4_countOrders 12 = .ok (.ifCond .le 65, 3) := by decide +kernel
theorem dX4_countOrders_15 : decode cX4_countOrders 15 = .ok (.iconst 0, 1) := by decide +kernel
theorem dX4_countOrders_16 : decode cX4_countOrders 16 = .ok (.istore_n 3, 1) := by decide +kernel
theorem dX4_countOrders_17 : decode cX4_countOrders 17 = .ok (.iload_n 3, 1) := by decide +kernel
theorem dX4_countOrders_18 : decode cX4_countOrders 18 = .ok (.aload_n 0, 1) := by decide +kernel
theorem dX4_countOrders_19 : decode cX4_countOrders 19 = .ok (.getfield 41, 3) := by decide +kernel
theorem dX4_countOrders_22 : decode cX4_countOrders 22 = .ok (.if_icmp .ge 49, 3) := by decide +kernel
theorem dX4_countOrders_25 : decode cX4_countOrders 25 = .ok (.iload_n 2, 1) := by decide +kernel
theorem dX4_countOrders_26 : decode cX4_countOrders 26 = .ok (.iload_n 3, 1) := by decide +kernel
theorem dX4_countOrders_27 : decode cX4_countOrders 27 = .ok (.ishr, 1) := by decide +kernel
theorem dX4_countOrders_28 : decode cX4_countOrders 28 = .ok (.iconst 1, 1) := by decide +kernel
theorem dX4_countOrders_29 : decode cX4_countOrders 29 = .ok (.iand, 1) := by decide +kernel
theorem dX4_countOrders_30 : decode cX4_countOrders 30 = .ok (.iconst 1, 1) := by decide +kernel
theorem dX4_countOrders_31 : decode cX4_countOrders 31 = .ok (.if_icmp .ne 34, 3) := by decide +kernel
theorem dX4_countOrders_34 : decode cX4_countOrders 34 = .ok (.aload_n 0, 1) := by decide +kernel
theorem dX4_countOrders_35 : decode cX4_countOrders 35 = .ok (.getfield 21, 3) := by decide +kernel
theorem dX4_countOrders_38 : decode cX4_countOrders 38 = .ok (.iload_n 2, 1) := by decide +kernel
theorem dX4_countOrders_39 : decode cX4_countOrders 39 = .ok (.bipush 8, 2) := by decide +kernel
theorem dX4_countOrders_41 : decode cX4_countOrders 41 = .ok (.imul, 1) := by decide +kernel
theorem dX4_countOrders_42 : decode cX4_countOrders 42 = .ok (.iload_n 3, 1) := by decide +kernel
theorem dX4_countOrders_43 : decode cX4_countOrders 43 = .ok (.iadd, 1) := by decide +kernel
theorem dX4_countOrders_44 : decode cX4_countOrders 44 = .ok (.iload_n 2, 1) := by decide +kernel
theorem dX4_countOrders_45 : decode cX4_countOrders 45 = .ok (.iload_n 1, 1) := by decide +kernel
theorem dX4_countOrders_46 : decode cX4_countOrders 46 = .ok (.if_icmp .ne 7, 3) := by decide +kernel
theorem dX4_countOrders_49 : decode cX4_countOrders 49 = .ok (.iconst 1, 1) := by decide +kernel
theorem dX4_countOrders_50 : decode cX4_countOrders 50 = .ok (.goto 14, 3) := by decide +kernel
theorem dX4_countOrders_53 : decode cX4_countOrders 53 = .ok (.aload_n 0, 1) := by decide +kernel
theorem dX4_countOrders_54 : decode cX4_countOrders 54 = .ok (.iload_n 2, 1) := by decide +kernel
theorem dX4_countOrders_55 : decode cX4_countOrders 55 = .ok (.aload_n 0, 1) := by decide +kernel
theorem dX4_countOrders_56 : decode cX4_countOrders 56 = .ok (.iload_n 2, 1) := by decide +kernel
theorem dX4_countOrders_57 : decode cX4_countOrders 57 = .ok (.iload_n 3, 1) := by decide +kernel
theorem dX4_countOrders_58 : decode cX4_countOrders 58 = .ok (.invokevirtual 51, 3) := by decide +kernel
theorem dX4_countOrders_61 : decode cX4_countOrders 61 = .ok (.invokevirtual 55, 3) := by decide +kernel
theorem dX4_countOrders_64 : decode cX4_countOrders 64 = .ok (.iastore, 1) := by decide +kernel
theorem dX4_countOrders_65 : decode cX4_countOrders 65 = .ok (.iinc 3 1, 3) := by decide +kernel
theorem dX4_countOrders_68 : decode cX4_countOrders 68 = .ok (.goto (-51), 3) := by decide +kernel
theorem dX4_countOrders_71 : decode cX4_countOrders 71 = .ok (.iinc 2 (-1), 3) := by decide +kernel
theorem dX4_countOrders_74 : decode cX4_countOrders 74 = .ok (.goto (-63), 3) := by decide +kernel
theorem dX4_countOrders_77 : decode cX4_countOrders 77 = .ok (.iload_n 1, 1) := by decide +kernel
theorem dX4_countOrders_78 : decode cX4_countOrders 78 = .ok (.ifCond .ne 7, 3) := by decide +kernel
theorem dX4_countOrders_81 : decode cX4_countOrders 81 = .ok (.iconst 1, 1) := by decide +kernel
theorem dX4_countOrders_82 : decode cX4_countOrders 82 = .ok (.goto 14, 3) := by decide +kernel
theorem dX4_countOrders_85 : decode cX4_countOrders 85 = .ok (.aload_n 0, 1) := by decide +kernel
theorem dX4_countOrders_86 : decode cX4_countOrders 86 = .ok (.iconst 0, 1) := by decide +kernel
theorem dX4_countOrders_87 : decode cX4_countOrders 87 = .ok (.aload_n 0, 1) := by decide +kernel
theorem dX4_countOrders_88 : decode cX4_countOrders 88 = .ok (.iconst 0, 1) := by decide +kernel
theorem dX4_countOrders_89 : decode cX4_countOrders 89 = .ok (.iconst 0, 1) := by decide +kernel
theorem dX4_countOrders_90 : decode cX4_countOrders 90 = .ok (.invokevirtual 51, 3) := by decide +kernel
theorem dX4_countOrders_93 : decode cX4_countOrders 93 = .ok (.invokevirtual 55, 3) := by decide +kernel
theorem dX4_countOrders_96 : decode cX4_countOrders 96 = .ok (.ireturn, 1) := by decide +kernel
theorem dX4_sumOver_0 : decode cX4_sumOver 0 = .ok (.iconst 0, 1) := by decide +kernel
theorem dX4_sumOver_1 : decode cX4_sumOver 1 = .ok (.istore_n 3, 1) := by decide +kernel
theorem dX4_sumOver_2 : decode cX4_sumOver 2 = .ok (.iconst 0, 1) := by decide +kernel
theorem dX4_sumOver_3 : decode cX4_sumOver 3 = .ok (.istore 4, 2) := by decide +kernel
theorem dX4_sumOver_5 : decode cX4_sumOver 5 = .ok (.iload 4, 2) := by decide +kernel
theorem dX4_sumOver_7 : decode cX4_sumOver 7 = .ok (.aload_n 0, 1) := by decide +kernel
theorem dX4_sumOver_8 : decode cX4_sumOver 8 = .ok (.getfield 41, 3) := by decide +kernel
theorem dX4_sumOver_11 : decode cX4_sumOver 11 = .ok (.if_icmp .ge 39, 3) := by decide +kernel
theorem dX4_sumOver_14 : decode cX4_sumOver 14 = .ok (.iload_n 2, 1) := by decide +kernel
theorem dX4_sumOver_15 : decode cX4_sumOver 15 = .ok (.iload 4, 2) := by decide +kernel
theorem dX4_sumOver_17 : decode cX4_sumOver 17 = .ok (.ishr, 1) := by decide +kernel
theorem dX4_sumOver_18 : decode cX4_sumOver 18 = .ok (.iconst 1, 1) := by decide +kernel
theorem dX4_sumOver_19 : decode cX4_sumOver 19 = .ok (.iand, 1) := by decide +kernel
theorem dX4_sumOver_20 : decode cX4_sumOver 20 = .ok (.iconst 1, 1) := by decide +kernel
theorem dX4_sumOver_21 : decode cX4_sumOver 21 = .ok (.if_icmp .ne 23, 3) := by decide +kernel
theorem dX4_sumOver_24 : decode cX4_sumOver 24 = .ok (.iload_n 3, 1) := by decide +kernel
theorem dX4_sumOver_25 : decode cX4_sumOver 25 = .ok (.aload_n 0, 1) := by decide +kernel
theorem dX4_sumOver_26 : decode cX4_sumOver 26 = .ok (.getfield 21, 3) := by decide +kernel
theorem dX4_sumOver_29 : decode cX4_sumOver 29 = .ok (.iload_n 1, 1) := by decide +kernel
theorem dX4_sumOver_30 : decode cX4_sumOver 30 = .ok (.iconst 1, 1) := by decide +kernel
theorem dX4_sumOver_31 : decode cX4_sumOver 31 = .ok (.iload 4, 2) := by decide +kernel
theorem dX4_sumOver_33 : decode cX4_sumOver 33 = .ok (.ishl, 1) := by decide +kernel
theorem dX4_sumOver_34 : decode cX4_sumOver 34 = .ok (.ior, 1) := by decide +kernel
theorem dX4_sumOver_35 : decode cX4_sumOver 35 = .ok (.bipush 8, 2) := by decide +kernel
theorem dX4_sumOver_37 : decode cX4_sumOver 37 = .ok (.imul, 1) := by decide +kernel
theorem dX4_sumOver_38 : decode cX4_sumOver 38 = .ok (.iload 4, 2) := by decide +kernel
theorem dX4_sumOver_40 : decode cX4_sumOver 40 = .ok (.iadd, 1) := by decide +kernel
theorem dX4_sumOver_41 : decode cX4_sumOver 41 = .ok (.iaload, 1) := by decide +kernel
theorem dX4_sumOver_42 : decode cX4_sumOver 42 = .ok (.iadd, 1) := by decide +kernel
theorem dX4_sumOver_43 : decode cX4_sumOver 43 = .ok (.istore_n 3, 1) := by decide +kernel
theorem dX4_sumOver_44 : decode cX4_sumOver 44 = .ok (.iinc 4 1, 3) := by decide +kernel
theorem dX4_sumOver_47 : decode cX4_sumOver 47 = .ok (.goto (-42), 3) := by decide +kernel
theorem dX4_sumOver_50 : decode cX4_sumOver 50 = .ok (.iload_n 3, 1) := by decide +kernel
theorem dX4_sumOver_51 : decode cX4_sumOver 51 = .ok (.ireturn, 1) := by decide +kernel
theorem dX4_inFirstOrder_0 : decode cX4_inFirstOrder 0 = .ok (.iconst 0, 1) := by decide +kernel
theorem dX4_inFirstOrder_1 : decode cX4_inFirstOrder 1 = .ok (.istore_n 2, 1) := by decide +kernel
theorem dX4_inFirstOrder_2 : decode cX4_inFirstOrder 2 = .ok (.iconst 0, 1) := by decide +kernel
theorem dX4_inFirstOrder_3 : decode cX4_inFirstOrder 3 = .ok (.istore_n 3, 1) := by decide +kernel
theorem dX4_inFirstOrder_4 : decode cX4_inFirstOrder 4 = .ok (.iconst 0, 1) := by decide +kernel
theorem dX4_inFirstOrder_5 : decode cX4_inFirstOrder 5 = .ok (.istore 4, 2) := by decide +kernel
theorem dX4_inFirstOrder_7 : decode cX4_inFirstOrder 7 = .ok (.iload 4, 2) := by decide +kernel
theorem dX4_inFirstOrder_9 : decode cX4_inFirstOrder 9 = .ok (.aload_n 0, 1) := by decide +kernel
theorem dX4_inFirstOrder_10 : decode cX4_inFirstOrder 10 = .ok (.getfield 41, 3) := by decide +kernel
theorem dX4_inFirstOrder_13 : decode cX4_inFirstOrder 13 = .ok (.if_icmp .ge 45, 3) := by decide +kernel
theorem dX4_inFirstOrder_16 : decode cX4_inFirstOrder 16 = .ok (.aload_n 0, 1) := by decide +kernel
theorem dX4_inFirstOrder_17 : decode cX4_inFirstOrder 17 = .ok (.iload_n 2, 1) := by decide +kernel
theorem dX4_inFirstOrder_18 : decode cX4_inFirstOrder 18 = .ok (.aload_n 0, 1) := by decide +kernel
theorem dX4_inFirstOrder_19 : decode cX4_inFirstOrder 19 = .ok (.iload_n 2, 1) := by decide +kernel
theorem dX4_inFirstOrder_20 : decode cX4_inFirstOrder 20 = .ok (.iload_n 3, 1) := by decide +kernel
theorem dX4_inFirstOrder_21 : decode cX4_inFirstOrder 21 = .ok (.invokevirtual 51, 3) := by decide +kernel
theorem dX4_inFirstOrder_24 : decode cX4_inFirstOrder 24 = .ok (.invokevirtual 58, 3) := by decide +kernel
theorem dX4_inFirstOrder_27 : decode cX4_inFirstOrder 27 = .ok (.istore_n 3, 1) := by decide +kernel
theorem dX4_inFirstOrder_28 : decode cX4_inFirstOrder 28 = .ok (.iload_n 2, 1) := by decide +kernel
theorem dX4_inFirstOrder_29 : decode cX4_inFirstOrder 29 = .ok (.iconst 1, 1) := by decide +kernel
theorem dX4_inFirstOrder_30 : decode cX4_inFirstOrder 30 = .ok (.iload_n 3, 1) := by decide +kernel
theorem dX4_inFirstOrder_31 : decode cX4_inFirstOrder 31 = .ok (.ishl, 1) := by decide +kernel
theorem dX4_inFirstOrder_32 : decode cX4_inFirstOrder 32 = .ok (.ior, 1) := by decide +kernel
theorem dX4_inFirstOrder_33 : decode cX4_inFirstOrder 33 = .ok (.istore_n 2, 1) := by decide +kernel
theorem dX4_inFirstOrder_34 : decode cX4_inFirstOrder 34 = .ok (.aload_n 0, 1) := by decide +kernel
theorem dX4_inFirstOrder_35 : decode cX4_inFirstOrder 35 = .ok (.getfield 15, 3) := by decide +kernel
theorem dX4_inFirstOrder_38 : decode cX4_inFirstOrder 38 = .ok (.iload 4, 2) := by decide +kernel
theorem dX4_inFirstOrder_40 : decode cX4_inFirstOrder 40 = .ok (.iaload, 1) := by decide +kernel
theorem dX4_inFirstOrder_41 : decode cX4_inFirstOrder 41 = .ok (.iload_n 1, 1) := by decide +kernel
theorem dX4_inFirstOrder_42 : decode cX4_inFirstOrder 42 = .ok (.if_icmp .ne 10, 3) := by decide +kernel
theorem dX4_inFirstOrder_45 : decode cX4_inFirstOrder 45 = .ok (.aload_n 0, 1) := by decide +kernel
theorem dX4_inFirstOrder_46 : decode cX4_inFirstOrder 46 = .ok (.getfield 9, 3) := by decide +kernel
theorem dX4_inFirstOrder_49 : decode cX4_inFirstOrder 49 = .ok (.iload_n 3, 1) := by decide +kernel
theorem dX4_inFirstOrder_50 : decode cX4_inFirstOrder 50 = .ok (.iaload, 1) := by decide +kernel
theorem dX4_inFirstOrder_51 : decode cX4_inFirstOrder 51 = .ok (.ireturn, 1) := by decide +kernel
theorem dX4_inFirstOrder_52 : decode cX4_inFirstOrder 52 = .ok (.iinc 4 1, 3) := by decide +kernel
theorem dX4_inFirstOrder_55 : decode cX4_inFirstOrder 55 = .ok (.goto (-48), 3) := by decide +kernel
theorem dX4_inFirstOrder_58 : decode cX4_inFirstOrder 58 = .ok (.iconst 0, 1) := by decide +kernel
theorem dX4_inFirstOrder_59 : decode cX4_inFirstOrder 59 = .ok (.ireturn, 1) := by decide +kernel
theorem dX4_firstComer_0 : decode cX4_firstComer 0 = .ok (.iconst 0, 1) := by decide +kernel
theorem dX4_firstComer_1 : decode cX4_firstComer 1 = .ok (.istore_n 3, 1) := by decide +kernel
theorem dX4_firstComer_2 : decode cX4_firstComer 2 = .ok (.iload_n 3, 1) := by decide +kernel
theorem dX4_firstComer_3 : decode cX4_firstComer 3 = .ok (.aload_n 0, 1) := by decide +kernel
theorem dX4_firstComer_4 : decode cX4_firstComer 4 = .ok (.getfield 41, 3) := by decide +kernel
theorem dX4_firstComer_7 : decode cX4_firstComer 7 = .ok (.if_icmp .ge 38, 3) := by decide +kernel
theorem dX4_firstComer_10 : decode cX4_firstComer 10 = .ok (.iload_n 2, 1) := by decide +kernel
theorem dX4_firstComer_11 : decode cX4_firstComer 11 = .ok (.iload_n 3, 1) := by decide +kernel
theorem dX4_firstComer_12 : decode cX4_firstComer 12 = .ok (.ishr, 1) := by decide +kernel
theorem dX4_firstComer_13 : decode cX4_firstComer 13 = .ok (.iconst 1, 1) := by decide +kernel
theorem dX4_firstComer_14 : decode cX4_firstComer 14 = .ok (.iand, 1) := by decide +kernel
theorem dX4_firstComer_15 : decode cX4_firstComer 15 = .ok (.iconst 1, 1) := by decide +kernel
theorem dX4_firstComer_16 : decode cX4_firstComer 16 = .ok (.if_icmp .ne 23, 3) := by decide +kernel
theorem dX4_firstComer_19 : decode cX4_firstComer 19 = .ok (.aload_n 0, 1) := by decide +kernel
theorem dX4_firstComer_20 : decode cX4_firstComer 20 = .ok (.getfield 21, 3) := by decide +kernel
theorem dX4_firstComer_23 : decode cX4_firstComer 23 = .ok (.iload_n 1, 1) := by decide +kernel
theorem dX4_firstComer_24 : decode cX4_firstComer 24 = .ok (.iconst 1, 1) := by decide +kernel
theorem dX4_firstComer_25 : decode cX4_firstComer 25 = .ok (.iload_n 3, 1) := by decide +kernel
theorem dX4_firstComer_26 : decode cX4_firstComer 26 = .ok (.ishl, 1) := by decide +kernel
theorem dX4_firstComer_27 : decode cX4_firstComer 27 = .ok (.ior, 1) := by decide +kernel
theorem dX4_firstComer_28 : decode cX4_firstComer 28 = .ok (.bipush 8, 2) := by decide +kernel
theorem dX4_firstComer_30 : decode cX4_firstComer 30 = .ok (.imul, 1) := by decide +kernel
theorem dX4_firstComer_31 : decode cX4_firstComer 31 = .ok (.iload_n 3, 1) := by decide +kernel
theorem dX4_firstComer_32 : decode cX4_firstComer 32 = .ok (.iadd, 1) := by decide +kernel
theorem dX4_firstComer_33 : decode cX4_firstComer 33 = .ok (.iaload, 1) := by decide +kernel
theorem dX4_firstComer_34 : decode cX4_firstComer 34 = .ok (.ifCond .le 5, 3) := by decide +kernel
theorem dX4_firstComer_37 : decode cX4_firstComer 37 = .ok (.iload_n 3, 1) := by decide +kernel
theorem dX4_firstComer_38 : decode cX4_firstComer 38 = .ok (.ireturn, 1) := by decide +kernel
theorem dX4_firstComer_39 : decode cX4_firstComer 39 = .ok (.iinc 3 1, 3) := by decide +kernel
theorem dX4_firstComer_42 : decode cX4_firstComer 42 = .ok (.goto (-40), 3) := by decide +kernel
theorem dX4_firstComer_45 : decode cX4_firstComer 45 = .ok (.iconst 0, 1) := by decide +kernel
theorem dX4_firstComer_46 : decode cX4_firstComer 46 = .ok (.ireturn, 1) := by decide +kernel
theorem dX4_leastMoved_0 : decode cX4_leastMoved 0 = .ok (.iconst 1, 1) := by decide +kernel
theorem dX4_leastMoved_1 : decode cX4_leastMoved 1 = .ok (.aload_n 0, 1) := by decide +kernel
theorem dX4_leastMoved_2 : decode cX4_leastMoved 2 = .ok (.getfield 41, 3) := by decide +kernel
theorem dX4_leastMoved_5 : decode cX4_leastMoved 5 = .ok (.ishl, 1) := by decide +kernel
theorem dX4_leastMoved_6 : decode cX4_leastMoved 6 = .ok (.iconst 1, 1) := by decide +kernel
theorem dX4_leastMoved_7 : decode cX4_leastMoved 7 = .ok (.isub, 1) := by decide +kernel
theorem dX4_leastMoved_8 : decode cX4_leastMoved 8 = .ok (.istore_n 1, 1) := by decide +kernel
theorem dX4_leastMoved_9 : decode cX4_leastMoved 9 = .ok (.iload_n 1, 1) := by decide +kernel
theorem dX4_leastMoved_10 : decode cX4_leastMoved 10 = .ok (.istore_n 2, 1) := by decide +kernel
theorem dX4_leastMoved_11 : decode cX4_leastMoved 11 = .ok (.iload_n 2, 1) := by decide +kernel
theorem dX4_leastMoved_12 : decode cX4_leastMoved 12 = .ok (.ifCond .le 65, 3) := by decide +kernel
theorem dX4_leastMoved_15 : decode cX4_leastMoved 15 = .ok (.iconst 0, 1) := by decide +kernel
theorem dX4_leastMoved_16 : decode cX4_leastMoved 16 = .ok (.istore_n 3, 1) := by decide +kernel
theorem dX4_leastMoved_17 : decode cX4_leastMoved 17 = .ok (.iload_n 3, 1) := by decide +kernel
theorem dX4_leastMoved_18 : decode cX4_leastMoved 18 = .ok (.aload_n 0, 1) := by decide +kernel
theorem dX4_leastMoved_19 : decode cX4_leastMoved 19 = .ok (.getfield 41, 3) := by decide +kernel
theorem dX4_leastMoved_22 : decode cX4_leastMoved 22 = .ok (.if_icmp .ge 49, 3) := by decide +kernel
theorem dX4_leastMoved_25 : decode cX4_leastMoved 25 = .ok (.iload_n 2, 1) := by decide +kernel
theorem dX4_leastMoved_26 : decode cX4_leastMoved 26 = .ok (.iload_n 3, 1) := by decide +kernel
theorem dX4_leastMoved_27 : decode cX4_leastMoved 27 = .ok (.ishr, 1) := by decide +kernel
theorem dX4_leastMoved_28 : decode cX4_leastMoved 28 = .ok (.iconst 1, 1) := by decide +kernel
theorem dX4_leastMoved_29 : decode cX4_leastMoved 29 = .ok (.iand, 1) := by decide +kernel
theorem dX4_leastMoved_30 : decode cX4_leastMoved 30 = .ok (.iconst 1, 1) := by decide +kernel
theorem dX4_leastMoved_31 : decode cX4_leastMoved 31 = .ok (.if_icmp .ne 34, 3) := by decide +kernel
theorem dX4_leastMoved_34 : decode cX4_leastMoved 34 = .ok (.aload_n 0, 1) := by decide +kernel
theorem dX4_leastMoved_35 : decode cX4_leastMoved 35 = .ok (.getfield 21, 3) := by decide +kernel
theorem dX4_leastMoved_38 : decode cX4_leastMoved 38 = .ok (.iload_n 2, 1) := by decide +kernel
theorem dX4_leastMoved_39 : decode cX4_leastMoved 39 = .ok (.bipush 8, 2) := by decide +kernel
theorem dX4_leastMoved_41 : decode cX4_leastMoved 41 = .ok (.imul, 1) := by decide +kernel
theorem dX4_leastMoved_42 : decode cX4_leastMoved 42 = .ok (.iload_n 3, 1) := by decide +kernel
theorem dX4_leastMoved_43 : decode cX4_leastMoved 43 = .ok (.iadd, 1) := by decide +kernel
theorem dX4_leastMoved_44 : decode cX4_leastMoved 44 = .ok (.iload_n 2, 1) := by decide +kernel
theorem dX4_leastMoved_45 : decode cX4_leastMoved 45 = .ok (.iload_n 1, 1) := by decide +kernel
theorem dX4_leastMoved_46 : decode cX4_leastMoved 46 = .ok (.if_icmp .ne 7, 3) := by decide +kernel
theorem dX4_leastMoved_49 : decode cX4_leastMoved 49 = .ok (.iconst 0, 1) := by decide +kernel
theorem dX4_leastMoved_50 : decode cX4_leastMoved 50 = .ok (.goto 14, 3) := by decide +kernel
theorem dX4_leastMoved_53 : decode cX4_leastMoved 53 = .ok (.aload_n 0, 1) := by decide +kernel
theorem dX4_leastMoved_54 : decode cX4_leastMoved 54 = .ok (.iload_n 2, 1) := by decide +kernel
theorem dX4_leastMoved_55 : decode cX4_leastMoved 55 = .ok (.aload_n 0, 1) := by decide +kernel
theorem dX4_leastMoved_56 : decode cX4_leastMoved 56 = .ok (.iload_n 2, 1) := by decide +kernel
theorem dX4_leastMoved_57 : decode cX4_leastMoved 57 = .ok (.iload_n 3, 1) := by decide +kernel
theorem dX4_leastMoved_58 : decode cX4_leastMoved 58 = .ok (.invokevirtual 51, 3) := by decide +kernel
theorem dX4_leastMoved_61 : decode cX4_leastMoved 61 = .ok (.invokevirtual 61, 3) := by decide +kernel
theorem dX4_leastMoved_64 : decode cX4_leastMoved 64 = .ok (.iastore, 1) := by decide +kernel
theorem dX4_leastMoved_65 : decode cX4_leastMoved 65 = .ok (.iinc 3 1, 3) := by decide +kernel
theorem dX4_leastMoved_68 : decode cX4_leastMoved 68 = .ok (.goto (-51), 3) := by decide +kernel
theorem dX4_leastMoved_71 : decode cX4_leastMoved 71 = .ok (.iinc 2 (-1), 3) := by decide +kernel
theorem dX4_leastMoved_74 : decode cX4_leastMoved 74 = .ok (.goto (-63), 3) := by decide +kernel
theorem dX4_leastMoved_77 : decode cX4_leastMoved 77 = .ok (.iload_n 1, 1) := by decide +kernel
theorem dX4_leastMoved_78 : decode cX4_leastMoved 78 = .ok (.ifCond .ne 7, 3) := by decide +kernel
theorem dX4_leastMoved_81 : decode cX4_leastMoved 81 = .ok (.iconst 0, 1) := by decide +kernel
theorem dX4_leastMoved_82 : decode cX4_leastMoved 82 = .ok (.goto 14, 3) := by decide +kernel
theorem dX4_leastMoved_85 : decode cX4_leastMoved 85 = .ok (.aload_n 0, 1) := by decide +kernel
theorem dX4_leastMoved_86 : decode cX4_leastMoved 86 = .ok (.iconst 0, 1) := by decide +kernel
theorem dX4_leastMoved_87 : decode cX4_leastMoved 87 = .ok (.aload_n 0, 1) := by decide +kernel
theorem dX4_leastMoved_88 : decode cX4_leastMoved 88 = .ok (.iconst 0, 1) := by decide +kernel
theorem dX4_leastMoved_89 : decode cX4_leastMoved 89 = .ok (.iconst 0, 1) := by decide +kernel
theorem dX4_leastMoved_90 : decode cX4_leastMoved 90 = .ok (.invokevirtual 51, 3) := by decide +kernel
theorem dX4_leastMoved_93 : decode cX4_leastMoved 93 = .ok (.invokevirtual 61, 3) := by decide +kernel
theorem dX4_leastMoved_96 : decode cX4_leastMoved 96 = .ok (.ireturn, 1) := by decide +kernel
theorem dX4_leastOver_0 : decode cX4_leastOver 0 = .ok (.iload_n 1, 1) := by decide +kernel
theorem dX4_leastOver_1 : decode cX4_leastOver 1 = .ok (.invokestatic 31, 3) := by decide +kernel
theorem dX4_leastOver_4 : decode cX4_leastOver 4 = .ok (.istore_n 3, 1) := by decide +kernel
theorem dX4_leastOver_5 : decode cX4_leastOver 5 = .ok (.iconst (-1), 1) := by decide +kernel
theorem dX4_leastOver_6 : decode cX4_leastOver 6 = .ok (.istore 4, 2) := by decide +kernel
theorem dX4_leastOver_8 : decode cX4_leastOver 8 = .ok (.iconst 0, 1) := by decide +kernel
theorem dX4_leastOver_9 : decode cX4_leastOver 9 = .ok (.istore 5, 2) := by decide +kernel
theorem dX4_leastOver_11 : decode cX4_leastOver 11 = .ok (.iload 5, 2) := by decide +kernel
theorem dX4_leastOver_13 : decode cX4_leastOver 13 = .ok (.aload_n 0, 1) := by decide +kernel
theorem dX4_leastOver_14 : decode cX4_leastOver 14 = .ok (.getfield 41, 3) := by decide +kernel
theorem dX4_leastOver_17 : decode cX4_leastOver 17 = .ok (.if_icmp .ge 85, 3) := by decide +kernel
theorem dX4_leastOver_20 : decode cX4_leastOver 20 = .ok (.iload_n 2, 1) := by decide +kernel
theorem dX4_leastOver_21 : decode cX4_leastOver 21 = .ok (.iload 5, 2) := by decide +kernel
theorem dX4_leastOver_23 : decode cX4_leastOver 23 = .ok (.ishr, 1) := by decide +kernel
theorem dX4_leastOver_24 : decode cX4_leastOver 24 = .ok (.iconst 1, 1) := by decide +kernel
theorem dX4_leastOver_25 : decode cX4_leastOver 25 = .ok (.iand, 1) := by decide +kernel
theorem dX4_leastOver_26 : decode cX4_leastOver 26 = .ok (.iconst 1, 1) := by decide +kernel
theorem dX4_leastOver_27 : decode cX4_leastOver 27 = .ok (.if_icmp .ne 23, 3) := by decide +kernel
theorem dX4_leastOver_30 : decode cX4_leastOver 30 = .ok (.aload_n 0, 1) := by decide +kernel
theorem dX4_leastOver_31 : decode cX4_leastOver 31 = .ok (.getfield 21, 3) := by decide +kernel
theorem dX4_leastOver_34 : decode cX4_leastOver 34 = .ok (.iload_n 1, 1) := by decide +kernel
theorem dX4_leastOver_35 : decode cX4_leastOver 35 = .ok (.iconst 1, 1) := by decide +kernel
theorem dX4_leastOver_36 : decode cX4_leastOver 36 = .ok (.iload 5, 2) := by decide +kernel
theorem dX4_leastOver_38 : decode cX4_leastOver 38 = .ok (.ishl, 1) := by decide +kernel
theorem dX4_leastOver_39 : decode cX4_leastOver 39 = .ok (.ior, 1) := by decide +kernel
theorem dX4_leastOver_40 : decode cX4_leastOver 40 = .ok (.bipush 8, 2) := by decide +kernel
theorem dX4_leastOver_42 : decode cX4_leastOver 42 = .ok (.imul, 1) := by decide +kernel
theorem dX4_leastOver_43 : decode cX4_leastOver 43 = .ok (.iload 5, 2) := by decide +kernel
theorem dX4_leastOver_45 : decode cX4_leastOver 45 = .ok (.iadd, 1) := by decide +kernel
theorem dX4_leastOver_46 : decode cX4_leastOver 46 = .ok (.iaload, 1) := by decide +kernel
theorem dX4_leastOver_47 : decode cX4_leastOver 47 = .ok (.goto 4, 3) := by decide +kernel
theorem dX4_leastOver_50 : decode cX4_leastOver 50 = .ok (.iconst (-1), 1) := by decide +kernel
theorem dX4_leastOver_51 : decode cX4_leastOver 51 = .ok (.istore 6, 2) := by decide +kernel
theorem dX4_leastOver_53 : decode cX4_leastOver 53 = .ok (.iload 6, 2) := by decide +kernel
theorem dX4_leastOver_55 : decode cX4_leastOver 55 = .ok (.iconst (-1), 1) := by decide +kernel
theorem dX4_leastOver_56 : decode cX4_leastOver 56 = .ok (.if_icmp .eq 40, 3) := by decide +kernel
theorem dX4_leastOver_59 : decode cX4_leastOver 59 = .ok (.iload 5, 2) := by decide +kernel
theorem dX4_leastOver_61 : decode cX4_leastOver 61 = .ok (.iload_n 3, 1) := by decide +kernel
theorem dX4_leastOver_62 : decode cX4_leastOver 62 = .ok (.if_icmp .ne 8, 3) := by decide +kernel
theorem dX4_leastOver_65 : decode cX4_leastOver 65 = .ok (.iload 6, 2) := by decide +kernel
theorem dX4_leastOver_67 : decode cX4_leastOver 67 = .ok (.goto 7, 3) := by decide +kernel
theorem dX4_leastOver_70 : decode cX4_leastOver 70 = .ok (.iload 6, 2) := by decide +kernel
theorem dX4_leastOver_72 : decode cX4_leastOver 72 = .ok (.iconst 1, 1) := by decide +kernel
theorem dX4_leastOver_73 : decode cX4_leastOver 73 = .ok (.iadd, 1) := by decide +kernel
theorem dX4_leastOver_74 : decode cX4_leastOver 74 = .ok (.istore 7, 2) := by decide +kernel
theorem dX4_leastOver_76 : decode cX4_leastOver 76 = .ok (.iload 4, 2) := by decide +kernel
theorem dX4_leastOver_78 : decode cX4_leastOver 78 = .ok (.iconst (-1), 1) := by decide +kernel
theorem dX4_leastOver_79 : decode cX4_leastOver 79 = .ok (.if_icmp .ne 8, 3) := by decide +kernel
theorem dX4_leastOver_82 : decode cX4_leastOver 82 = .ok (.iload 7, 2) := by decide +kernel
theorem dX4_leastOver_84 : decode cX4_leastOver 84 = .ok (.goto 10, 3) := by decide +kernel
theorem dX4_leastOver_87 : decode cX4_leastOver 87 = .ok (.iload 4, 2) := by decide +kernel
theorem dX4_leastOver_89 : decode cX4_leastOver 89 = .ok (.iload 7, 2) := by decide +kernel
theorem dX4_leastOver_91 : decode cX4_leastOver 91 = .ok (.invokestatic 64, 3) := by decide +kernel
theorem dX4_leastOver_94 : decode cX4_leastOver 94 = .ok (.istore 4, 2) := by decide +kernel
theorem dX4_leastOver_96 : decode cX4_leastOver 96 = .ok (.iinc 5 1, 3) := by decide +kernel
theorem dX4_leastOver_99 : decode cX4_leastOver 99 = .ok (.goto (-88), 3) := by decide +kernel
theorem dX4_leastOver_102 : decode cX4_leastOver 102 = .ok (.iload 4, 2) := by decide +kernel
theorem dX4_leastOver_104 : decode cX4_leastOver 104 = .ok (.ireturn, 1) := by decide +kernel
theorem dX4_settleApart_0 : decode cX4_settleApart 0 = .ok (.aload_n 0, 1) := by decide +kernel
theorem dX4_settleApart_1 : decode cX4_settleApart 1 = .ok (.iconst 0, 1) := by decide +kernel
theorem dX4_settleApart_2 : decode cX4_settleApart 2 = .ok (.aload_n 1, 1) := by decide +kernel
theorem dX4_settleApart_3 : decode cX4_settleApart 3 = .ok (.invokevirtual 69, 3) := by decide +kernel
theorem dX4_settleApart_6 : decode cX4_settleApart 6 = .ok (.iconst 0, 1) := by decide +kernel
theorem dX4_settleApart_7 : decode cX4_settleApart 7 = .ok (.istore_n 2, 1) := by decide +kernel
theorem dX4_settleApart_8 : decode cX4_settleApart 8 = .ok (.iload_n 2, 1) := by decide +kernel
theorem dX4_settleApart_9 : decode cX4_settleApart 9 = .ok (.aload_n 0, 1) := by decide +kernel
theorem dX4_settleApart_10 : decode cX4_settleApart 10 = .ok (.getfield 41, 3) := by decide +kernel
theorem dX4_settleApart_13 : decode cX4_settleApart 13 = .ok (.if_icmp .ge 54, 3) := by decide +kernel
theorem dX4_settleApart_16 : decode cX4_settleApart 16 = .ok (.iconst 0, 1) := by decide +kernel
theorem dX4_settleApart_17 : decode cX4_settleApart 17 = .ok (.istore_n 3, 1) := by decide +kernel
theorem dX4_settleApart_18 : decode cX4_settleApart 18 = .ok (.iload_n 3, 1) := by decide +kernel
theorem dX4_settleApart_19 : decode cX4_settleApart 19 = .ok (.aload_n 0, 1) := by decide +kernel
theorem dX4_settleApart_20 : decode cX4_settleApart 20 = .ok (.getfield 41, 3) := by decide +kernel
theorem dX4_settleApart_23 : decode cX4_settleApart 23 = .ok (.if_icmp .ge 38, 3) := by decide +kernel
theorem dX4_settleApart_26 : decode cX4_settleApart 26 = .ok (.aload_n 0, 1) := by decide +kernel
theorem dX4_settleApart_27 : decode cX4_settleApart 27 = .ok (.getfield 9, 3) := by decide +kernel
theorem dX4_settleApart_30 : decode cX4_settleApart 30 = .ok (.iload_n 2, 1) := by decide +kernel
theorem dX4_settleApart_31 : decode cX4_settleApart 31 = .ok (.iaload, 1) := by decide +kernel
theorem dX4_settleApart_32 : decode cX4_settleApart 32 = .ok (.aload_n 0, 1) := by decide +kernel
theorem dX4_settleApart_33 : decode cX4_settleApart 33 = .ok (.getfield 9, 3) := by decide +kernel
theorem dX4_settleApart_36 : decode cX4_settleApart 36 = .ok (.iload_n 3, 1) := by decide +kernel
theorem dX4_settleApart_37 : decode cX4_settleApart 37 = .ok (.iaload, 1) := by decide +kernel
theorem dX4_settleApart_38 : decode cX4_settleApart 38 = .ok (.if_icmp .ne 17, 3) := by decide +kernel
theorem dX4_settleApart_41 : decode cX4_settleApart 41 = .ok (.aload_n 0, 1) := by decide +kernel
theorem dX4_settleApart_42 : decode cX4_settleApart 42 = .ok (.getfield 18, 3) := by decide +kernel
theorem dX4_settleApart_45 : decode cX4_settleApart 45 = .ok (.iload_n 2, 1) := by decide +kernel
theorem dX4_settleApart_46 : decode cX4_settleApart 46 = .ok (.dup2, 1) := by decide +kernel
theorem dX4_settleApart_47 : decode cX4_settleApart 47 = .ok (.iaload, 1) := by decide +kernel
theorem dX4_settleApart_48 : decode cX4_settleApart 48 = .ok (.iconst 1, 1) := by decide +kernel
theorem dX4_settleApart_49 : decode cX4_settleApart 49 = .ok (.iload_n 3, 1) := by decide +kernel
theorem dX4_settleApart_50 : decode cX4_settleApart 50 = .ok (.ishl, 1) := by decide +kernel
theorem dX4_settleApart_51 : decode cX4_settleApart 51 = .ok (.iconst (-1), 1) := by decide +kernel
theorem dX4_settleApart_52 : decode cX4_settleApart 52 = .ok (.ixor, 1) := by decide +kernel
theorem dX4_settleApart_53 : decode cX4_settleApart 53 = .ok (.iand, 1) := by decide +kernel
theorem dX4_settleApart_54 : decode cX4_settleApart 54 = .ok (.iastore, 1) := by decide +kernel
theorem dX4_settleApart_55 : decode cX4_settleApart 55 = .ok (.iinc 3 1, 3) := by decide +kernel
theorem dX4_settleApart_58 : decode cX4_settleApart 58 = .ok (.goto (-40), 3) := by decide +kernel
theorem dX4_settleApart_61 : decode cX4_settleApart 61 = .ok (.iinc 2 1, 3) := by decide +kernel
theorem dX4_settleApart_64 : decode cX4_settleApart 64 = .ok (.goto (-56), 3) := by decide +kernel
theorem dX4_settleApart_67 : decode cX4_settleApart 67 = .ok (.return_, 1) := by decide +kernel
theorem dX4_longestRow_0 : decode cX4_longestRow 0 = .ok (.iconst 0, 1) := by decide +kernel
theorem dX4_longestRow_1 : decode cX4_longestRow 1 = .ok (.istore_n 1, 1) := by decide +kernel
theorem dX4_longestRow_2 : decode cX4_longestRow 2 = .ok (.iconst 1, 1) := by decide +kernel
theorem dX4_longestRow_3 : decode cX4_longestRow 3 = .ok (.istore_n 2, 1) := by decide +kernel
theorem dX4_longestRow_4 : decode cX4_longestRow 4 = .ok (.iload_n 2, 1) := by decide +kernel
theorem dX4_longestRow_5 : decode cX4_longestRow 5 = .ok (.iconst 1, 1) := by decide +kernel
theorem dX4_longestRow_6 : decode cX4_longestRow 6 = .ok (.aload_n 0, 1) := by decide +kernel
theorem dX4_longestRow_7 : decode cX4_longestRow 7 = .ok (.getfield 41, 3) := by decide +kernel
theorem dX4_longestRow_10 : decode cX4_longestRow 10 = .ok (.ishl, 1) := by decide +kernel
theorem dX4_longestRow_11 : decode cX4_longestRow 11 = .ok (.if_icmp .ge 38, 3) := by decide +kernel
theorem dX4_longestRow_14 : decode cX4_longestRow 14 = .ok (.aload_n 0, 1) := by decide +kernel
theorem dX4_longestRow_15 : decode cX4_longestRow 15 = .ok (.getfield 24, 3) := by decide +kernel
theorem dX4_longestRow_18 : decode cX4_longestRow 18 = .ok (.iload_n 2, 1) := by decide +kernel
theorem dX4_longestRow_19 : decode cX4_longestRow 19 = .ok (.aload_n 0, 1) := by decide +kernel
theorem dX4_longestRow_20 : decode cX4_longestRow 20 = .ok (.iload_n 2, 1) := by decide +kernel
theorem dX4_longestRow_21 : decode cX4_longestRow 21 = .ok (.invokevirtual 73, 3) := by decide +kernel
theorem dX4_longestRow_24 : decode cX4_longestRow 24 = .ok (.iastore, 1) := by decide +kernel
theorem dX4_longestRow_25 : decode cX4_longestRow 25 = .ok (.aload_n 0, 1) := by decide +kernel
theorem dX4_longestRow_26 : decode cX4_longestRow 26 = .ok (.getfield 24, 3) := by decide +kernel
theorem dX4_longestRow_29 : decode cX4_longestRow 29 = .ok (.iload_n 2, 1) := by decide +kernel
theorem dX4_longestRow_30 : decode cX4_longestRow 30 = .ok (.iaload, 1) := by decide +kernel
theorem dX4_longestRow_31 : decode cX4_longestRow 31 = .ok (.ifCond .eq 12, 3) := by decide +kernel
theorem dX4_longestRow_34 : decode cX4_longestRow 34 = .ok (.iload_n 1, 1) := by decide +kernel
theorem dX4_longestRow_35 : decode cX4_longestRow 35 = .ok (.iload_n 2, 1) := by decide +kernel
theorem dX4_longestRow_36 : decode cX4_longestRow 36 = .ok (.invokestatic 31, 3) := by decide +kernel
theorem dX4_longestRow_39 : decode cX4_longestRow 39 = .ok (.invokestatic 76, 3) := by decide +kernel
theorem dX4_longestRow_42 : decode cX4_longestRow 42 = .ok (.istore_n 1, 1) := by decide +kernel
theorem dX4_longestRow_43 : decode cX4_longestRow 43 = .ok (.iinc 2 1, 3) := by decide +kernel
theorem dX4_longestRow_46 : decode cX4_longestRow 46 = .ok (.goto (-42), 3) := by decide +kernel
theorem dX4_longestRow_49 : decode cX4_longestRow 49 = .ok (.iload_n 1, 1) := by decide +kernel
theorem dX4_longestRow_50 : decode cX4_longestRow 50 = .ok (.ireturn, 1) := by decide +kernel
theorem dX4_endsOf_0 : decode cX4_endsOf 0 = .ok (.iconst 0, 1) := by decide +kernel
theorem dX4_endsOf_1 : decode cX4_endsOf 1 = .ok (.istore_n 2, 1) := by decide +kernel
theorem dX4_endsOf_2 : decode cX4_endsOf 2 = .ok (.iconst 0, 1) := by decide +kernel
theorem dX4_endsOf_3 : decode cX4_endsOf 3 = .ok (.istore_n 3, 1) := by decide +kernel
theorem dX4_endsOf_4 : decode cX4_endsOf 4 = .ok (.iload_n 3, 1) := by decide +kernel
theorem dX4_endsOf_5 : decode cX4_endsOf 5 = .ok (.aload_n 0, 1) := by decide +kernel
theorem dX4_endsOf_6 : decode cX4_endsOf 6 = .ok (.getfield 41, 3) := by decide +kernel
theorem dX4_endsOf_9 : decode cX4_endsOf 9 = .ok (.if_icmp .ge 64, 3) := by decide +kernel
theorem dX4_endsOf_12 : decode cX4_endsOf 12 = .ok (.iload_n 1, 1) := by decide +kernel
theorem dX4_endsOf_13 : decode cX4_endsOf 13 = .ok (.iconst 1, 1) := by decide +kernel
theorem dX4_endsOf_14 : decode cX4_endsOf 14 = .ok (.iload_n 3, 1) := by decide +kernel
theorem dX4_endsOf_15 : decode cX4_endsOf 15 = .ok (.ishl, 1) := by decide +kernel
theorem dX4_endsOf_16 : decode cX4_endsOf 16 = .ok (.iconst (-1), 1) := by decide +kernel
theorem dX4_endsOf_17 : decode cX4_endsOf 17 = .ok (.ixor, 1) := by decide +kernel
theorem dX4_endsOf_18 : decode cX4_endsOf 18 = .ok (.iand, 1) := by decide +kernel
theorem dX4_endsOf_19 : decode cX4_endsOf 19 = .ok (.istore 4, 2) := by decide +kernel
theorem dX4_endsOf_21 : decode cX4_endsOf 21 = .ok (.iload 4, 2) := by decide +kernel
theorem dX4_endsOf_23 : decode cX4_endsOf 23 = .ok (.iload_n 1, 1) := by decide +kernel
theorem dX4_endsOf_24 : decode cX4_endsOf 24 = .ok (.if_icmp .eq 7, 3) := by decide +kernel
theorem dX4_endsOf_27 : decode cX4_endsOf 27 = .ok (.iconst 1, 1) := by decide +kernel
theorem dX4_endsOf_28 : decode cX4_endsOf 28 = .ok (.goto 4, 3) := by decide +kernel
theorem dX4_endsOf_31 : decode cX4_endsOf 31 = .ok (.iconst 0, 1) := by decide +kernel
theorem dX4_endsOf_32 : decode cX4_endsOf 32 = .ok (.istore 5, 2) := by decide +kernel
theorem dX4_endsOf_34 : decode cX4_endsOf 34 = .ok (.iload 5, 2) := by decide +kernel
theorem dX4_endsOf_36 : decode cX4_endsOf 36 = .ok (.ifCond .eq 31, 3) := by decide +kernel
theorem dX4_endsOf_39 : decode cX4_endsOf 39 = .ok (.iload 4, 2) := by decide +kernel
theorem dX4_endsOf_41 : decode cX4_endsOf 41 = .ok (.ifCond .eq 20, 3) := by decide +kernel
theorem dX4_endsOf_44 : decode cX4_endsOf 44 = .ok (.aload_n 0, 1) := by decide +kernel
theorem dX4_endsOf_45 : decode cX4_endsOf 45 = .ok (.getfield 24, 3) := by decide +kernel
theorem dX4_endsOf_48 : decode cX4_endsOf 48 = .ok (.iload 4, 2) := by decide +kernel
theorem dX4_endsOf_50 : decode cX4_endsOf 50 = .ok (.iaload, 1) := by decide +kernel
theorem dX4_endsOf_51 : decode cX4_endsOf 51 = .ok (.aload_n 0, 1) := by decide +kernel
theorem dX4_endsOf_52 : decode cX4_endsOf 52 = .ok (.getfield 18, 3) := by decide +kernel
theorem dX4_endsOf_55 : decode cX4_endsOf 55 = .ok (.iload_n 3, 1) := by decide +kernel
theorem dX4_endsOf_56 : decode cX4_endsOf 56 = .ok (.iaload, 1) := by decide +kernel
theorem dX4_endsOf_57 : decode cX4_endsOf 57 = .ok (.iand, 1) := by decide +kernel
theorem dX4_endsOf_58 : decode cX4_endsOf 58 = .ok (.ifCond .eq 9, 3) := by decide +kernel
theorem dX4_endsOf_61 : decode cX4_endsOf 61 = .ok (.iload_n 2, 1) := by decide +kernel
theorem dX4_endsOf_62 : decode cX4_endsOf 62 = .ok (.iconst 1, 1) := by decide +kernel
theorem dX4_endsOf_63 : decode cX4_endsOf 63 = .ok (.iload_n 3, 1) := by decide +kernel
theorem dX4_endsOf_64 : decode cX4_endsOf 64 = .ok (.ishl, 1) := by decide +kernel
theorem dX4_endsOf_65 : decode cX4_endsOf 65 = .ok (.ior, 1) := by decide +kernel
theorem dX4_endsOf_66 : decode cX4_endsOf 66 = .ok (.istore_n 2, 1) := by decide +kernel
theorem dX4_endsOf_67 : decode cX4_endsOf 67 = .ok (.iinc 3 1, 3) := by decide +kernel
theorem dX4_endsOf_70 : decode cX4_endsOf 70 = .ok (.goto (-66), 3) := by decide +kernel
theorem dX4_endsOf_73 : decode cX4_endsOf 73 = .ok (.iload_n 2, 1) := by decide +kernel
theorem dX4_endsOf_74 : decode cX4_endsOf 74 = .ok (.ireturn, 1) := by decide +kernel
theorem dX4_greatestSet_0 : decode cX4_greatestSet 0 = .ok (.iconst 0, 1) := by decide +kernel
theorem dX4_greatestSet_1 : decode cX4_greatestSet 1 = .ok (.istore_n 1, 1) := by decide +kernel
theorem dX4_greatestSet_2 : decode cX4_greatestSet 2 = .ok (.iconst 1, 1) := by decide +kernel
theorem dX4_greatestSet_3 : decode cX4_greatestSet 3 = .ok (.istore_n 2, 1) := by decide +kernel
theorem dX4_greatestSet_4 : decode cX4_greatestSet 4 = .ok (.iload_n 2, 1) := by decide +kernel
theorem dX4_greatestSet_5 : decode cX4_greatestSet 5 = .ok (.iconst 1, 1) := by decide +kernel
theorem dX4_greatestSet_6 : decode cX4_greatestSet 6 = .ok (.aload_n 0, 1) := by decide +kernel
theorem dX4_greatestSet_7 : decode cX4_greatestSet 7 = .ok (.getfield 41, 3) := by decide +kernel
theorem dX4_greatestSet_10 : decode cX4_greatestSet 10 = .ok (.ishl, 1) := by decide +kernel
theorem dX4_greatestSet_11 : decode cX4_greatestSet 11 = .ok (.if_icmp .ge 30, 3) := by decide +kernel
theorem dX4_greatestSet_14 : decode cX4_greatestSet 14 = .ok (.iload_n 2, 1) := by decide +kernel
theorem dX4_greatestSet_15 : decode cX4_greatestSet 15 = .ok (.invokestatic 31, 3) := by decide +kernel
theorem dX4_greatestSet_18 : decode cX4_greatestSet 18 = .ok (.iload_n 1, 1) := by decide +kernel
theorem dX4_greatestSet_19 : decode cX4_greatestSet 19 = .ok (.invokestatic 31, 3) := by decide +kernel
theorem dX4_greatestSet_22 : decode cX4_greatestSet 22 = .ok (.if_icmp .le 13, 3) := by decide +kernel
theorem dX4_greatestSet_25 : decode cX4_greatestSet 25 = .ok (.aload_n 0, 1) := by decide +kernel
theorem dX4_greatestSet_26 : decode cX4_greatestSet 26 = .ok (.iload_n 2, 1) := by decide +kernel
theorem dX4_greatestSet_27 : decode cX4_greatestSet 27 = .ok (.invokevirtual 79, 3) := by decide +kernel
theorem dX4_greatestSet_30 : decode cX4_greatestSet 30 = .ok (.ifCond .eq 5, 3) := by decide +kernel
theorem dX4_greatestSet_33 : decode cX4_greatestSet 33 = .ok (.iload_n 2, 1) := by decide +kernel
theorem dX4_greatestSet_34 : decode cX4_greatestSet 34 = .ok (.istore_n 1, 1) := by decide +kernel
theorem dX4_greatestSet_35 : decode cX4_greatestSet 35 = .ok (.iinc 2 1, 3) := by decide +kernel
theorem dX4_greatestSet_38 : decode cX4_greatestSet 38 = .ok (.goto (-34), 3) := by decide +kernel
theorem dX4_greatestSet_41 : decode cX4_greatestSet 41 = .ok (.aload_n 0, 1) := by decide +kernel
theorem dX4_greatestSet_42 : decode cX4_greatestSet 42 = .ok (.iload_n 1, 1) := by decide +kernel
theorem dX4_greatestSet_43 : decode cX4_greatestSet 43 = .ok (.invokevirtual 83, 3) := by decide +kernel
theorem dX4_greatestSet_46 : decode cX4_greatestSet 46 = .ok (.ireturn, 1) := by decide +kernel
theorem dX4_isApart_0 : decode cX4_isApart 0 = .ok (.iconst 0, 1) := by decide +kernel
theorem dX4_isApart_1 : decode cX4_isApart 1 = .ok (.istore_n 2, 1) := by decide +kernel
theorem dX4_isApart_2 : decode cX4_isApart 2 = .ok (.iload_n 2, 1) := by decide +kernel
theorem dX4_isApart_3 : decode cX4_isApart 3 = .ok (.aload_n 0, 1) := by decide +kernel
theorem dX4_isApart_4 : decode cX4_isApart 4 = .ok (.getfield 41, 3) := by decide +kernel
theorem dX4_isApart_7 : decode cX4_isApart 7 = .ok (.if_icmp .ge 37, 3) := by decide +kernel
theorem dX4_isApart_10 : decode cX4_isApart 10 = .ok (.iload_n 1, 1) := by decide +kernel
theorem dX4_isApart_11 : decode cX4_isApart 11 = .ok (.iconst 1, 1) := by decide +kernel
theorem dX4_isApart_12 : decode cX4_isApart 12 = .ok (.iload_n 2, 1) := by decide +kernel
theorem dX4_isApart_13 : decode cX4_isApart 13 = .ok (.ishl, 1) := by decide +kernel
theorem dX4_isApart_14 : decode cX4_isApart 14 = .ok (.iconst (-1), 1) := by decide +kernel
theorem dX4_isApart_15 : decode cX4_isApart 15 = .ok (.ixor, 1) := by decide +kernel
theorem dX4_isApart_16 : decode cX4_isApart 16 = .ok (.iand, 1) := by decide +kernel
theorem dX4_isApart_17 : decode cX4_isApart 17 = .ok (.istore_n 3, 1) := by decide +kernel
theorem dX4_isApart_18 : decode cX4_isApart 18 = .ok (.iload_n 3, 1) := by decide +kernel
theorem dX4_isApart_19 : decode cX4_isApart 19 = .ok (.iload_n 1, 1) := by decide +kernel
theorem dX4_isApart_20 : decode cX4_isApart 20 = .ok (.if_icmp .eq 18, 3) := by decide +kernel
theorem dX4_isApart_23 : decode cX4_isApart 23 = .ok (.iload_n 3, 1) := by decide +kernel
theorem dX4_isApart_24 : decode cX4_isApart 24 = .ok (.aload_n 0, 1) := by decide +kernel
theorem dX4_isApart_25 : decode cX4_isApart 25 = .ok (.getfield 18, 3) := by decide +kernel
theorem dX4_isApart_28 : decode cX4_isApart 28 = .ok (.iload_n 2, 1) := by decide +kernel
theorem dX4_isApart_29 : decode cX4_isApart 29 = .ok (.iaload, 1) := by decide +kernel
theorem dX4_isApart_30 : decode cX4_isApart 30 = .ok (.iconst (-1), 1) := by decide +kernel
theorem dX4_isApart_31 : decode cX4_isApart 31 = .ok (.ixor, 1) := by decide +kernel
theorem dX4_isApart_32 : decode cX4_isApart 32 = .ok (.iand, 1) := by decide +kernel
theorem dX4_isApart_33 : decode cX4_isApart 33 = .ok (.ifCond .eq 5, 3) := by decide +kernel
theorem dX4_isApart_36 : decode cX4_isApart 36 = .ok (.iconst 0, 1) := by decide +kernel
theorem dX4_isApart_37 : decode cX4_isApart 37 = .ok (.ireturn, 1) := by decide +kernel
theorem dX4_isApart_38 : decode cX4_isApart 38 = .ok (.iinc 2 1, 3) := by decide +kernel
theorem dX4_isApart_41 : decode cX4_isApart 41 = .ok (.goto (-39), 3) := by decide +kernel
theorem dX4_isApart_44 : decode cX4_isApart 44 = .ok (.iconst 1, 1) := by decide +kernel
theorem dX4_isApart_45 : decode cX4_isApart 45 = .ok (.ireturn, 1) := by decide +kernel
theorem dX4_housesOf_0 : decode cX4_housesOf 0 = .ok (.iconst 0, 1) := by decide +kernel
theorem dX4_housesOf_1 : decode cX4_housesOf 1 = .ok (.istore_n 2, 1) := by decide +kernel
theorem dX4_housesOf_2 : decode cX4_housesOf 2 = .ok (.iconst 0, 1) := by decide +kernel
theorem dX4_housesOf_3 : decode cX4_housesOf 3 = .ok (.istore_n 3, 1) := by decide +kernel
theorem dX4_housesOf_4 : decode cX4_housesOf 4 = .ok (.iload_n 3, 1) := by decide +kernel
theorem dX4_housesOf_5 : decode cX4_housesOf 5 = .ok (.aload_n 0, 1) := by decide +kernel
theorem dX4_housesOf_6 : decode cX4_housesOf 6 = .ok (.getfield 41, 3) := by decide +kernel
theorem dX4_housesOf_9 : decode cX4_housesOf 9 = .ok (.if_icmp .ge 24, 3) := by decide +kernel
theorem dX4_housesOf_12 : decode cX4_housesOf 12 = .ok (.iload_n 2, 1) := by decide +kernel
theorem dX4_housesOf_13 : decode cX4_housesOf 13 = .ok (.iload_n 1, 1) := by decide +kernel
theorem dX4_housesOf_14 : decode cX4_housesOf 14 = .ok (.iload_n 3, 1) := by decide +kernel
theorem dX4_housesOf_15 : decode cX4_housesOf 15 = .ok (.ishr, 1) := by decide +kernel
theorem dX4_housesOf_16 : decode cX4_housesOf 16 = .ok (.iconst 1, 1) := by decide +kernel
theorem dX4_housesOf_17 : decode cX4_housesOf 17 = .ok (.iand, 1) := by decide +kernel
theorem dX4_housesOf_18 : decode cX4_housesOf 18 = .ok (.aload_n 0, 1) := by decide +kernel
theorem dX4_housesOf_19 : decode cX4_housesOf 19 = .ok (.getfield 15, 3) := by decide +kernel
theorem dX4_housesOf_22 : decode cX4_housesOf 22 = .ok (.iload_n 3, 1) := by decide +kernel
theorem dX4_housesOf_23 : decode cX4_housesOf 23 = .ok (.iaload, 1) := by decide +kernel
theorem dX4_housesOf_24 : decode cX4_housesOf 24 = .ok (.ishl, 1) := by decide +kernel
theorem dX4_housesOf_25 : decode cX4_housesOf 25 = .ok (.ior, 1) := by decide +kernel
theorem dX4_housesOf_26 : decode cX4_housesOf 26 = .ok (.istore_n 2, 1) := by decide +kernel
theorem dX4_housesOf_27 : decode cX4_housesOf 27 = .ok (.iinc 3 1, 3) := by decide +kernel
theorem dX4_housesOf_30 : decode cX4_housesOf 30 = .ok (.goto (-26), 3) := by decide +kernel
theorem dX4_housesOf_33 : decode cX4_housesOf 33 = .ok (.iload_n 2, 1) := by decide +kernel
theorem dX4_housesOf_34 : decode cX4_housesOf 34 = .ok (.ireturn, 1) := by decide +kernel
theorem dX5_init_0 : decode cX5_init 0 = .ok (.aload_n 0, 1) := by decide +kernel
theorem dX5_init_1 : decode cX5_init 1 = .ok (.invokespecial 1, 3) := by decide +kernel
theorem dX5_init_4 : decode cX5_init 4 = .ok (.aload_n 0, 1) := by decide +kernel
theorem dX5_init_5 : decode cX5_init 5 = .ok (.aload_n 1, 1) := by decide +kernel
theorem dX5_init_6 : decode cX5_init 6 = .ok (.putfield 7, 3) := by decide +kernel
theorem dX5_init_9 : decode cX5_init 9 = .ok (.return_, 1) := by decide +kernel
theorem dX5_lets_0 : decode cX5_lets 0 = .ok (.iload_n 1, 1) := by decide +kernel
theorem dX5_lets_1 : decode cX5_lets 1 = .ok (.iload_n 2, 1) := by decide +kernel
theorem dX5_lets_2 : decode cX5_lets 2 = .ok (.if_icmp .ge 7, 3) := by decide +kernel
theorem dX5_lets_5 : decode cX5_lets 5 = .ok (.iload_n 1, 1) := by decide +kernel
theorem dX5_lets_6 : decode cX5_lets 6 = .ok (.goto 4, 3) := by decide +kernel
theorem dX5_lets_9 : decode cX5_lets 9 = .ok (.iload_n 2, 1) := by decide +kernel
theorem dX5_lets_10 : decode cX5_lets 10 = .ok (.istore 4, 2) := by decide +kernel
theorem dX5_lets_12 : decode cX5_lets 12 = .ok (.iload_n 1, 1) := by decide +kernel
theorem dX5_lets_13 : decode cX5_lets 13 = .ok (.iload_n 2, 1) := by decide +kernel
theorem dX5_lets_14 : decode cX5_lets 14 = .ok (.if_icmp .ge 7, 3) := by decide +kernel
theorem dX5_lets_17 : decode cX5_lets 17 = .ok (.iload_n 2, 1) := by decide +kernel
theorem dX5_lets_18 : decode cX5_lets 18 = .ok (.goto 4, 3) := by decide +kernel
theorem dX5_lets_21 : decode cX5_lets 21 = .ok (.iload_n 1, 1) := by decide +kernel
theorem dX5_lets_22 : decode cX5_lets 22 = .ok (.istore 5, 2) := by decide +kernel
theorem dX5_lets_24 : decode cX5_lets 24 = .ok (.iload 4, 2) := by decide +kernel
theorem dX5_lets_26 : decode cX5_lets 26 = .ok (.iload 5, 2) := by decide +kernel
theorem dX5_lets_28 : decode cX5_lets 28 = .ok (.if_icmp .eq 17, 3) := by decide +kernel
theorem dX5_lets_31 : decode cX5_lets 31 = .ok (.iload 4, 2) := by decide +kernel
theorem dX5_lets_33 : decode cX5_lets 33 = .ok (.iconst 1, 1) := by decide +kernel
theorem dX5_lets_34 : decode cX5_lets 34 = .ok (.if_icmp .lt 11, 3) := by decide +kernel
theorem dX5_lets_37 : decode cX5_lets 37 = .ok (.iload 5, 2) := by decide +kernel
theorem dX5_lets_39 : decode cX5_lets 39 = .ok (.iload 4, 2) := by decide +kernel
theorem dX5_lets_41 : decode cX5_lets 41 = .ok (.irem, 1) := by decide +kernel
theorem dX5_lets_42 : decode cX5_lets 42 = .ok (.ifCond .eq 7, 3) := by decide +kernel
theorem dX5_lets_45 : decode cX5_lets 45 = .ok (.iconst 1, 1) := by decide +kernel
theorem dX5_lets_46 : decode cX5_lets 46 = .ok (.goto 4, 3) := by decide +kernel
theorem dX5_lets_49 : decode cX5_lets 49 = .ok (.iconst 0, 1) := by decide +kernel
theorem dX5_lets_50 : decode cX5_lets 50 = .ok (.ireturn, 1) := by decide +kernel
theorem dX6_init_0 : decode cX6_init 0 = .ok (.aload_n 0, 1) := by decide +kernel
theorem dX6_init_1 : decode cX6_init 1 = .ok (.aload_n 1, 1) := by decide +kernel
theorem dX6_init_2 : decode cX6_init 2 = .ok (.invokespecial 1, 3) := by decide +kernel
theorem dX6_init_5 : decode cX6_init 5 = .ok (.return_, 1) := by decide +kernel
theorem dX6_lets_0 : decode cX6_lets 0 = .ok (.aload_n 0, 1) := by decide +kernel
theorem dX6_lets_1 : decode cX6_lets 1 = .ok (.getfield 7, 3) := by decide +kernel
theorem dX6_lets_4 : decode cX6_lets 4 = .ok (.iload_n 1, 1) := by decide +kernel
theorem dX6_lets_5 : decode cX6_lets 5 = .ok (.invokevirtual 13, 3) := by decide +kernel
theorem dX6_lets_8 : decode cX6_lets 8 = .ok (.ifCond .ne 28, 3) := by decide +kernel
theorem dX6_lets_11 : decode cX6_lets 11 = .ok (.aload_n 0, 1) := by decide +kernel
theorem dX6_lets_12 : decode cX6_lets 12 = .ok (.getfield 7, 3) := by decide +kernel
theorem dX6_lets_15 : decode cX6_lets 15 = .ok (.iload_n 2, 1) := by decide +kernel
theorem dX6_lets_16 : decode cX6_lets 16 = .ok (.invokevirtual 13, 3) := by decide +kernel
theorem dX6_lets_19 : decode cX6_lets 19 = .ok (.ifCond .ne 17, 3) := by decide +kernel
theorem dX6_lets_22 : decode cX6_lets 22 = .ok (.aload_n 0, 1) := by decide +kernel
theorem dX6_lets_23 : decode cX6_lets 23 = .ok (.iload_n 1, 1) := by decide +kernel
theorem dX6_lets_24 : decode cX6_lets 24 = .ok (.iload_n 2, 1) := by decide +kernel
theorem dX6_lets_25 : decode cX6_lets 25 = .ok (.iload_n 3, 1) := by decide +kernel
theorem dX6_lets_26 : decode cX6_lets 26 = .ok (.invokespecial 19, 3) := by decide +kernel
theorem dX6_lets_29 : decode cX6_lets 29 = .ok (.ifCond .eq 7, 3) := by decide +kernel
theorem dX6_lets_32 : decode cX6_lets 32 = .ok (.iconst 1, 1) := by decide +kernel
theorem dX6_lets_33 : decode cX6_lets 33 = .ok (.goto 4, 3) := by decide +kernel
theorem dX6_lets_36 : decode cX6_lets 36 = .ok (.iconst 0, 1) := by decide +kernel
theorem dX6_lets_37 : decode cX6_lets 37 = .ok (.ireturn, 1) := by decide +kernel
theorem dX7_init_0 : decode cX7_init 0 = .ok (.aload_n 0, 1) := by decide +kernel
theorem dX7_init_1 : decode cX7_init 1 = .ok (.invokespecial 3, 3) := by decide +kernel
theorem dX7_init_4 : decode cX7_init 4 = .ok (.aload_n 0, 1) := by decide +kernel
theorem dX7_init_5 : decode cX7_init 5 = .ok (.bipush 8, 2) := by decide +kernel
theorem dX7_init_7 : decode cX7_init 7 = .ok (.newarray .int, 2) := by decide +kernel
theorem dX7_init_9 : decode cX7_init 9 = .ok (.putfield 9, 3) := by decide +kernel
theorem dX7_init_12 : decode cX7_init 12 = .ok (.aload_n 0, 1) := by decide +kernel
theorem dX7_init_13 : decode cX7_init 13 = .ok (.iconst (-1), 1) := by decide +kernel
theorem dX7_init_14 : decode cX7_init 14 = .ok (.putfield 15, 3) := by decide +kernel
theorem dX7_init_17 : decode cX7_init 17 = .ok (.aload_n 0, 1) := by decide +kernel
theorem dX7_init_18 : decode cX7_init 18 = .ok (.sipush 150, 3) := by decide +kernel
theorem dX7_init_21 : decode cX7_init 21 = .ok (.newarray .byte, 2) := by decide +kernel
theorem dX7_init_23 : decode cX7_init 23 = .ok (.putfield 19, 3) := by decide +kernel
theorem dX7_init_26 : decode cX7_init 26 = .ok (.return_, 1) := by decide +kernel
theorem dX7_take_0 : decode cX7_take 0 = .ok (.aload_n 0, 1) := by decide +kernel
theorem dX7_take_1 : decode cX7_take 1 = .ok (.getfield 23, 3) := by decide +kernel
theorem dX7_take_4 : decode cX7_take 4 = .ok (.sipush 150, 3) := by decide +kernel
theorem dX7_take_7 : decode cX7_take 7 = .ok (.if_icmp .lt 5, 3) := by decide +kernel
theorem dX7_take_10 : decode cX7_take 10 = .ok (.iconst 0, 1) := by decide +kernel
theorem dX7_take_11 : decode cX7_take 11 = .ok (.ireturn, 1) := by decide +kernel
theorem dX7_take_12 : decode cX7_take 12 = .ok (.aload_n 0, 1) := by decide +kernel
theorem dX7_take_13 : decode cX7_take 13 = .ok (.getfield 19, 3) := by decide +kernel
theorem dX7_take_16 : decode cX7_take 16 = .ok (.aload_n 0, 1) := by decide +kernel
theorem dX7_take_17 : decode cX7_take 17 = .ok (.getfield 23, 3) := by decide +kernel
theorem dX7_take_20 : decode cX7_take 20 = .ok (.iload_n 1, 1) := by decide +kernel
theorem dX7_take_21 : decode cX7_take 21 = .ok (.i2b, 1) := by decide +kernel
theorem dX7_take_22 : decode cX7_take 22 = .ok (.bastore, 1) := by decide +kernel
theorem dX7_take_23 : decode cX7_take 23 = .ok (.aload_n 0, 1) := by decide +kernel
theorem dX7_take_24 : decode cX7_take 24 = .ok (.dup, 1) := by decide +kernel
theorem dX7_take_25 : decode cX7_take 25 = .ok (.getfield 23, 3) := by decide +kernel
theorem dX7_take_28 : decode cX7_take 28 = .ok (.iconst 1, 1) := by decide +kernel
theorem dX7_take_29 : decode cX7_take 29 = .ok (.iadd, 1) := by decide +kernel
theorem dX7_take_30 : decode cX7_take 30 = .ok (.putfield 23, 3) := by decide +kernel
theorem dX7_take_33 : decode cX7_take 33 = .ok (.iconst 1, 1) := by decide +kernel
theorem dX7_take_34 : decode cX7_take 34 = .ok (.ireturn, 1) := by decide +kernel
theorem dX7_parse_0 : decode cX7_parse 0 = .ok (.aload_n 0, 1) := by decide +kernel
theorem dX7_parse_1 : decode cX7_parse 1 = .ok (.iconst (-1), 1) := by decide +kernel
theorem dX7_parse_2 : decode cX7_parse 2 = .ok (.putfield 15, 3) := by decide +kernel
theorem dX7_parse_5 : decode cX7_parse 5 = .ok (.aload_n 0, 1) := by decide +kernel
theorem dX7_parse_6 : decode cX7_parse 6 = .ok (.iconst 0, 1) := by decide +kernel
theorem dX7_parse_7 : decode cX7_parse 7 = .ok (.putfield 26, 3) := by decide +kernel
theorem dX7_parse_10 : decode cX7_parse 10 = .ok (.aload_n 0, 1) := by decide +kernel
theorem dX7_parse_11 : decode cX7_parse 11 = .ok (.iconst 0, 1) := by decide +kernel
theorem dX7_parse_12 : decode cX7_parse 12 = .ok (.putfield 29, 3) := by decide +kernel
theorem dX7_parse_15 : decode cX7_parse 15 = .ok (.iconst 0, 1) := by decide +kernel
theorem dX7_parse_16 : decode cX7_parse 16 = .ok (.istore_n 1, 1) := by decide +kernel
theorem dX7_parse_17 : decode cX7_parse 17 = .ok (.iload_n 1, 1) := by decide +kernel
theorem dX7_parse_18 : decode cX7_parse 18 = .ok (.bipush 8, 2) := by decide +kernel
theorem dX7_parse_20 : decode cX7_parse 20 = .ok (.if_icmp .ge 16, 3) := by decide +kernel
theorem dX7_parse_23 : decode cX7_parse 23 = .ok (.aload_n 0, 1) := by decide +kernel
theorem dX7_parse_24 : decode cX7_parse 24 = .ok (.getfield 9, 3) := by decide +kernel
theorem dX7_parse_27 : decode cX7_parse 27 = .ok (.iload_n 1, 1) := by decide +kernel
theorem dX7_parse_28 : decode cX7_parse 28 = .ok (.iconst 0, 1) := by decide +kernel
theorem dX7_parse_29 : decode cX7_parse 29 = .ok (.iastore, 1) := by decide +kernel
theorem dX7_parse_30 : decode cX7_parse 30 = .ok (.iinc 1 1, 3) := by decide +kernel
theorem dX7_parse_33 : decode cX7_parse 33 = .ok (.goto (-16), 3) := by decide +kernel
theorem dX7_parse_36 : decode cX7_parse 36 = .ok (.aload_n 0, 1) := by decide +kernel
theorem dX7_parse_37 : decode cX7_parse 37 = .ok (.invokevirtual 32, 3) := by decide +kernel
theorem dX7_parse_40 : decode cX7_parse 40 = .ok (.aload_n 0, 1) := by decide +kernel
theorem dX7_parse_41 : decode cX7_parse 41 = .ok (.invokevirtual 35, 3) := by decide +kernel
theorem dX7_parse_44 : decode cX7_parse 44 = .ok (.iconst 0, 1) := by decide +kernel
theorem dX7_parse_45 : decode cX7_parse 45 = .ok (.istore_n 1, 1) := by decide +kernel
theorem dX7_parse_46 : decode cX7_parse 46 = .ok (.iload_n 1, 1) := by decide +kernel
theorem dX7_parse_47 : decode cX7_parse 47 = .ok (.sipush 150, 3) := by decide +kernel
theorem dX7_parse_50 : decode cX7_parse 50 = .ok (.if_icmp .ge 33, 3) := by decide +kernel
theorem dX7_parse_53 : decode cX7_parse 53 = .ok (.aload_n 0, 1) := by decide +kernel
theorem dX7_parse_54 : decode cX7_parse 54 = .ok (.getfield 15, 3) := by decide +kernel
theorem dX7_parse_57 : decode cX7_parse 57 = .ok (.iconst (-1), 1) := by decide +kernel
theorem dX7_parse_58 : decode cX7_parse 58 = .ok (.if_icmp .ne 25, 3) := by decide +kernel
theorem dX7_parse_61 : decode cX7_parse 61 = .ok (.aload_n 0, 1) := by decide +kernel
theorem dX7_parse_62 : decode cX7_parse 62 = .ok (.invokevirtual 32, 3) := by decide +kernel
theorem dX7_parse_65 : decode cX7_parse 65 = .ok (.aload_n 0, 1) := by decide +kernel
theorem dX7_parse_66 : decode cX7_parse 66 = .ok (.getfield 38, 3) := by decide +kernel
theorem dX7_parse_69 : decode cX7_parse 69 = .ok (.ifCond .ne 4, 3) := by decide +kernel
theorem dX7_parse_72 : decode cX7_parse 72 = .ok (.return_, 1) := by decide +kernel
theorem dX7_parse_73 : decode cX7_parse 73 = .ok (.aload_n 0, 1) := by decide +kernel
theorem dX7_parse_74 : decode cX7_parse 74 = .ok (.invokevirtual 41, 3) := by decide +kernel
theorem dX7_parse_77 : decode cX7_parse 77 = .ok (.iinc 1 1, 3) := by decide +kernel
theorem dX7_parse_80 : decode cX7_parse 80 = .ok (.goto (-34), 3) := by decide +kernel
theorem dX7_parse_83 : decode cX7_parse 83 = .ok (.return_, 1) := by decide +kernel
theorem dX7_parseStreet_0 : decode cX7_parseStreet 0 = .ok (.aload_n 0, 1) := by decide +kernel
theorem dX7_parseStreet_1 : decode cX7_parseStreet 1 = .ok (.ldc 44, 2) := by decide +kernel
theorem dX7_parseStreet_3 : decode cX7_parseStreet 3 = .ok (.invokevirtual 46, 3) := by decide +kernel
theorem dX7_parseStreet_6 : decode cX7_parseStreet 6 = .ok (.aload_n 0, 1) := by decide +kernel
theorem dX7_parseStreet_7 : decode cX7_parseStreet 7 = .ok (.iconst 5, 1) := by decide +kernel
theorem dX7_parseStreet_8 : decode cX7_parseStreet 8 = .ok (.invokevirtual 50, 3) := by decide +kernel
theorem dX7_parseStreet_11 : decode cX7_parseStreet 11 = .ok (.istore_n 1, 1) := by decide +kernel
theorem dX7_parseStreet_12 : decode cX7_parseStreet 12 = .ok (.aload_n 0, 1) := by decide +kernel
theorem dX7_parseStreet_13 : decode cX7_parseStreet 13 = .ok (.bipush 9, 2) := by decide +kernel
theorem dX7_parseStreet_15 : decode cX7_parseStreet 15 = .ok (.invokevirtual 50, 3) := by decide +kernel
theorem dX7_parseStreet_18 : decode cX7_parseStreet 18 = .ok (.istore_n 2, 1) := by decide +kernel
theorem dX7_parseStreet_19 : decode cX7_parseStreet 19 = .ok (.aload_n 0, 1) := by decide +kernel
theorem dX7_parseStreet_20 : decode cX7_parseStreet 20 = .ok (.invokevirtual 54, 3) := by decide +kernel
theorem dX7_parseStreet_23 : decode cX7_parseStreet 23 = .ok (.aload_n 0, 1) := by decide +kernel
theorem dX7_parseStreet_24 : decode cX7_parseStreet 24 = .ok (.bipush 10, 2) := by decide +kernel
theorem dX7_parseStreet_26 : decode cX7_parseStreet 26 = .ok (.iload_n 1, 1) := by decide +kernel
theorem dX7_parseStreet_27 : decode cX7_parseStreet 27 = .ok (.imul, 1) := by decide +kernel
theorem dX7_parseStreet_28 : decode cX7_parseStreet 28 = .ok (.iload_n 2, 1) := by decide +kernel
theorem dX7_parseStreet_29 : decode cX7_parseStreet 29 = .ok (.iadd, 1) := by decide +kernel
theorem dX7_parseStreet_30 : decode cX7_parseStreet 30 = .ok (.putfield 57, 3) := by decide +kernel
theorem dX7_parseStreet_33 : decode cX7_parseStreet 33 = .ok (.aload_n 0, 1) := by decide +kernel
theorem dX7_parseStreet_34 : decode cX7_parseStreet 34 = .ok (.dup, 1) := by decide +kernel
theorem dX7_parseStreet_35 : decode cX7_parseStreet 35 = .ok (.getfield 26, 3) := by decide +kernel
theorem dX7_parseStreet_38 : decode cX7_parseStreet 38 = .ok (.iconst 1, 1) := by decide +kernel
theorem dX7_parseStreet_39 : decode cX7_parseStreet 39 = .ok (.iadd, 1) := by decide +kernel
theorem dX7_parseStreet_40 : decode cX7_parseStreet 40 = .ok (.putfield 26, 3) := by decide +kernel
theorem dX7_parseStreet_43 : decode cX7_parseStreet 43 = .ok (.return_, 1) := by decide +kernel
theorem dX7_parseHouse_0 : decode cX7_parseHouse 0 = .ok (.aload_n 0, 1) := by decide +kernel
theorem dX7_parseHouse_1 : decode cX7_parseHouse 1 = .ok (.ldc 60, 2) := by decide +kernel
theorem dX7_parseHouse_3 : decode cX7_parseHouse 3 = .ok (.invokevirtual 46, 3) := by decide +kernel
theorem dX7_parseHouse_6 : decode cX7_parseHouse 6 = .ok (.aload_n 0, 1) := by decide +kernel
theorem dX7_parseHouse_7 : decode cX7_parseHouse 7 = .ok (.bipush 7, 2) := by decide +kernel
theorem dX7_parseHouse_9 : decode cX7_parseHouse 9 = .ok (.invokevirtual 50, 3) := by decide +kernel
theorem dX7_parseHouse_12 : decode cX7_parseHouse 12 = .ok (.istore_n 1, 1) := by decide +kernel
theorem dX7_parseHouse_13 : decode cX7_parseHouse 13 = .ok (.aload_n 0, 1) := by decide +kernel
theorem dX7_parseHouse_14 : decode cX7_parseHouse 14 = .ok (.sipush 300, 3) := by decide +kernel
theorem dX7_parseHouse_17 : decode cX7_parseHouse 17 = .ok (.invokevirtual 50, 3) := by decide +kernel
theorem dX7_parseHouse_20 : decode cX7_parseHouse 20 = .ok (.istore_n 2, 1) := by decide +kernel
theorem dX7_parseHouse_21 : decode cX7_parseHouse 21 = .ok (.aload_n 0, 1) := by decide +kernel
theorem dX7_parseHouse_22 : decode cX7_parseHouse 22 = .ok (.invokevirtual 54, 3) := by decide +kernel
theorem dX7_parseHouse_25 : decode cX7_parseHouse 25 = .ok (.iload_n 1, 1) := by decide +kernel
theorem dX7_parseHouse_26 : decode cX7_parseHouse 26 = .ok (.invokestatic 62, 3) := by decide +kernel
theorem dX7_parseHouse_29 : decode cX7_parseHouse 29 = .ok (.ifCond .eq 10, 3) := by decide +kernel
theorem dX7_parseHouse_32 : decode cX7_parseHouse 32 = .ok (.aload_n 0, 1) := by decide +kernel
theorem dX7_parseHouse_33 : decode cX7_parseHouse 33 = .ok (.getfield 9, 3) := by decide +kernel
theorem dX7_parseHouse_36 : decode cX7_parseHouse 36 = .ok (.iload_n 1, 1) := by decide +kernel
theorem dX7_parseHouse_37 : decode cX7_parseHouse 37 = .ok (.iload_n 2, 1) := by decide +kernel
theorem dX7_parseHouse_38 : decode cX7_parseHouse 38 = .ok (.iastore, 1) := by decide +kernel
theorem dX7_parseHouse_39 : decode cX7_parseHouse 39 = .ok (.aload_n 0, 1) := by decide +kernel
theorem dX7_parseHouse_40 : decode cX7_parseHouse 40 = .ok (.dup, 1) := by decide +kernel
theorem dX7_parseHouse_41 : decode cX7_parseHouse 41 = .ok (.getfield 26, 3) := by decide +kernel
theorem dX7_parseHouse_44 : decode cX7_parseHouse 44 = .ok (.iconst 1, 1) := by decide +kernel
theorem dX7_parseHouse_45 : decode cX7_parseHouse 45 = .ok (.iadd, 1) := by decide +kernel
theorem dX7_parseHouse_46 : decode cX7_parseHouse 46 = .ok (.putfield 26, 3) := by decide +kernel
theorem dX7_parseHouse_49 : decode cX7_parseHouse 49 = .ok (.return_, 1) := by decide +kernel
theorem dX7_expectWord_0 : decode cX7_expectWord 0 = .ok (.aload_n 0, 1) := by decide +kernel
theorem dX7_expectWord_1 : decode cX7_expectWord 1 = .ok (.getfield 38, 3) := by decide +kernel
theorem dX7_expectWord_4 : decode cX7_expectWord 4 = .ok (.iconst 1, 1) := by decide +kernel
theorem dX7_expectWord_5 : decode cX7_expectWord 5 = .ok (.if_icmp .ne 11, 3) := by decide +kernel
theorem dX7_expectWord_8 : decode cX7_expectWord 8 = .ok (.aload_n 0, 1) := by decide +kernel
theorem dX7_expectWord_9 : decode cX7_expectWord 9 = .ok (.aload_n 1, 1) := by decide +kernel
theorem dX7_expectWord_10 : decode cX7_expectWord 10 = .ok (.invokevirtual 66, 3) := by decide +kernel
theorem dX7_expectWord_13 : decode cX7_expectWord 13 = .ok (.ifCond .ne 11, 3) := by decide +kernel
theorem dX7_expectWord_16 : decode cX7_expectWord 16 = .ok (.aload_n 0, 1) := by decide +kernel
theorem dX7_expectWord_17 : decode cX7_expectWord 17 = .ok (.aload_n 0, 1) := by decide +kernel
theorem dX7_expectWord_18 : decode cX7_expectWord 18 = .ok (.getfield 70, 3) := by decide +kernel
theorem dX7_expectWord_21 : decode cX7_expectWord 21 = .ok (.putfield 15, 3) := by decide +kernel
theorem dX7_expectWord_24 : decode cX7_expectWord 24 = .ok (.return_, 1) := by decide +kernel
theorem dX7_tokenIs_0 : decode cX7_tokenIs 0 = .ok (.aload_n 0, 1) := by decide +kernel
theorem dX7_tokenIs_1 : decode cX7_tokenIs 1 = .ok (.getfield 29, 3) := by decide +kernel
theorem dX7_tokenIs_4 : decode cX7_tokenIs 4 = .ok (.aload_n 0, 1) := by decide +kernel
theorem dX7_tokenIs_5 : decode cX7_tokenIs 5 = .ok (.getfield 70, 3) := by decide +kernel
theorem dX7_tokenIs_8 : decode cX7_tokenIs 8 = .ok (.isub, 1) := by decide +kernel
theorem dX7_tokenIs_9 : decode cX7_tokenIs 9 = .ok (.aload_n 1, 1) := by decide +kernel
theorem dX7_tokenIs_10 : decode cX7_tokenIs 10 = .ok (.invokevirtual 73, 3) := by decide +kernel
theorem dX7_tokenIs_13 : decode cX7_tokenIs 13 = .ok (.if_icmp .eq 5, 3) := by decide +kernel
theorem dX7_tokenIs_16 : decode cX7_tokenIs 16 = .ok (.iconst 0, 1) := by decide +kernel
theorem dX7_tokenIs_17 : decode cX7_tokenIs 17 = .ok (.ireturn, 1) := by decide +kernel
theorem dX7_tokenIs_18 : decode cX7_tokenIs 18 = .ok (.iconst 0, 1) := by decide +kernel
theorem dX7_tokenIs_19 : decode cX7_tokenIs 19 = .ok (.istore_n 2, 1) := by decide +kernel
theorem dX7_tokenIs_20 : decode cX7_tokenIs 20 = .ok (.iload_n 2, 1) := by decide +kernel
theorem dX7_tokenIs_21 : decode cX7_tokenIs 21 = .ok (.aload_n 1, 1) := by decide +kernel
theorem dX7_tokenIs_22 : decode cX7_tokenIs 22 = .ok (.invokevirtual 73, 3) := by decide +kernel
theorem dX7_tokenIs_25 : decode cX7_tokenIs 25 = .ok (.if_icmp .ge 29, 3) := by decide +kernel
theorem dX7_tokenIs_28 : decode cX7_tokenIs 28 = .ok (.aload_n 0, 1) := by decide +kernel
theorem dX7_tokenIs_29 : decode cX7_tokenIs 29 = .ok (.aload_n 0, 1) := by decide +kernel
theorem dX7_tokenIs_30 : decode cX7_tokenIs 30 = .ok (.getfield 70, 3) := by decide +kernel
theorem dX7_tokenIs_33 : decode cX7_tokenIs 33 = .ok (.iload_n 2, 1) := by decide +kernel
theorem dX7_tokenIs_34 : decode cX7_tokenIs 34 = .ok (.iadd, 1) := by decide +kernel
theorem dX7_tokenIs_35 : decode cX7_tokenIs 35 = .ok (.invokevirtual 78, 3) := by decide +kernel
theorem dX7_tokenIs_38 : decode cX7_tokenIs 38 = .ok (.aload_n 1, 1) := by decide +kernel
theorem dX7_tokenIs_39 : decode cX7_tokenIs 39 = .ok (.iload_n 2, 1) := by decide +kernel
theorem dX7_tokenIs_40 : decode cX7_tokenIs 40 = .ok (.invokevirtual 81, 3) := by decide +kernel
theorem dX7_tokenIs_43 : decode cX7_tokenIs 43 = .ok (.if_icmp .eq 5, 3) := by decide +kernel
theorem dX7_tokenIs_46 : decode cX7_tokenIs 46 = .ok (.iconst 0, 1) := by decide +kernel
theorem dX7_tokenIs_47 : decode cX7_tokenIs 47 = .ok (.ireturn, 1) := by decide +kernel
theorem dX7_tokenIs_48 : decode cX7_tokenIs 48 = .ok (.iinc 2 1, 3) := by decide +kernel
theorem dX7_tokenIs_51 : decode cX7_tokenIs 51 = .ok (.goto (-31), 3) := by decide +kernel
theorem dX7_tokenIs_54 : decode cX7_tokenIs 54 = .ok (.iconst 1, 1) := by decide +kernel
theorem dX7_tokenIs_55 : decode cX7_tokenIs 55 = .ok (.ireturn, 1) := by decide +kernel
theorem dX7_expectNumber_0 : decode cX7_expectNumber 0 = .ok (.aload_n 0, 1) := by decide +kernel
theorem dX7_expectNumber_1 : decode cX7_expectNumber 1 = .ok (.getfield 15, 3) := by decide +kernel
theorem dX7_expectNumber_4 : decode cX7_expectNumber 4 = .ok (.iconst (-1), 1) := by decide +kernel
theorem dX7_expectNumber_5 : decode cX7_expectNumber 5 = .ok (.if_icmp .eq 5, 3) := by decide +kernel
theorem dX7_expectNumber_8 : decode cX7_expectNumber 8 = .ok (.iconst 0, 1) := by decide +kernel
theorem dX7_expectNumber_9 : decode cX7_expectNumber 9 = .ok (.ireturn, 1) := by decide +kernel
theorem dX7_expectNumber_10 : decode cX7_expectNumber 10 = .ok (.aload_n 0, 1) := by decide +kernel
theorem dX7_expectNumber_11 : decode cX7_expectNumber 11 = .ok (.invokevirtual 32, 3) := by decide +kernel
theorem dX7_expectNumber_14 : decode cX7_expectNumber 14 = .ok (.aload_n 0, 1) := by decide +kernel
theorem dX7_expectNumber_15 : decode cX7_expectNumber 15 = .ok (.getfield 38, 3) := by decide +kernel
theorem dX7_expectNumber_18 : decode cX7_expectNumber 18 = .ok (.iconst 2, 1) := by decide +kernel
theorem dX7_expectNumber_19 : decode cX7_expectNumber 19 = .ok (.if_icmp .ne 18, 3) := by decide +kernel
theorem dX7_expectNumber_22 : decode cX7_expectNumber 22 = .ok (.aload_n 0, 1) := by decide +kernel
theorem dX7_expectNumber_23 : decode cX7_expectNumber 23 = .ok (.getfield 85, 3) := by decide +kernel
theorem dX7_expectNumber_26 : decode cX7_expectNumber 26 = .ok (.ifCond .lt 11, 3) := by decide +kernel
theorem dX7_expectNumber_29 : decode cX7_expectNumber 29 = .ok (.aload_n 0, 1) := by decide +kernel
theorem dX7_expectNumber_30 : decode cX7_expectNumber 30 = .ok (.getfield 85, 3) := by decide +kernel
theorem dX7_expectNumber_33 : decode cX7_expectNumber 33 = .ok (.iload_n 1, 1) := by decide +kernel
theorem dX7_expectNumber_34 : decode cX7_expectNumber 34 = .ok (.if_icmp .le 13, 3) := by decide +kernel
theorem dX7_expectNumber_37 : decode cX7_expectNumber 37 = .ok (.aload_n 0, 1) := by decide +kernel
theorem dX7_expectNumber_38 : decode cX7_expectNumber 38 = .ok (.aload_n 0, 1) := by decide +kernel
theorem dX7_expectNumber_39 : decode cX7_expectNumber 39 = .ok (.getfield 70, 3) := by decide +kernel
theorem dX7_expectNumber_42 : decode cX7_expectNumber 42 = .ok (.putfield 15, 3) := by decide +kernel
theorem dX7_expectNumber_45 : decode cX7_expectNumber 45 = .ok (.iconst 0, 1) := by decide +kernel
theorem dX7_expectNumber_46 : decode cX7_expectNumber 46 = .ok (.ireturn, 1) := by decide +kernel
theorem dX7_expectNumber_47 : decode cX7_expectNumber 47 = .ok (.aload_n 0, 1) := by decide +kernel
theorem dX7_expectNumber_48 : decode cX7_expectNumber 48 = .ok (.getfield 85, 3) := by decide +kernel
theorem dX7_expectNumber_51 : decode cX7_expectNumber 51 = .ok (.ireturn, 1) := by decide +kernel
theorem dX7_expectStop_0 : decode cX7_expectStop 0 = .ok (.aload_n 0, 1) := by decide +kernel
theorem dX7_expectStop_1 : decode cX7_expectStop 1 = .ok (.getfield 15, 3) := by decide +kernel
theorem dX7_expectStop_4 : decode cX7_expectStop 4 = .ok (.iconst (-1), 1) := by decide +kernel
theorem dX7_expectStop_5 : decode cX7_expectStop 5 = .ok (.if_icmp .eq 4, 3) := by decide +kernel
theorem dX7_expectStop_8 : decode cX7_expectStop 8 = .ok (.return_, 1) := by decide +kernel
theorem dX7_expectStop_9 : decode cX7_expectStop 9 = .ok (.aload_n 0, 1) := by decide +kernel
theorem dX7_expectStop_10 : decode cX7_expectStop 10 = .ok (.invokevirtual 32, 3) := by decide +kernel
theorem dX7_expectStop_13 : decode cX7_expectStop 13 = .ok (.aload_n 0, 1) := by decide +kernel
theorem dX7_expectStop_14 : decode cX7_expectStop 14 = .ok (.getfield 38, 3) := by decide +kernel
theorem dX7_expectStop_17 : decode cX7_expectStop 17 = .ok (.iconst 3, 1) := by decide +kernel
theorem dX7_expectStop_18 : decode cX7_expectStop 18 = .ok (.if_icmp .eq 11, 3) := by decide +kernel
theorem dX7_expectStop_21 : decode cX7_expectStop 21 = .ok (.aload_n 0, 1) := by decide +kernel
theorem dX7_expectStop_22 : decode cX7_expectStop 22 = .ok (.aload_n 0, 1) := by decide +kernel
theorem dX7_expectStop_23 : decode cX7_expectStop 23 = .ok (.getfield 70, 3) := by decide +kernel
theorem dX7_expectStop_26 : decode cX7_expectStop 26 = .ok (.putfield 15, 3) := by decide +kernel
theorem dX7_expectStop_29 : decode cX7_expectStop 29 = .ok (.return_, 1) := by decide +kernel
theorem dX7_scan_0 : decode cX7_scan 0 = .ok (.aload_n 0, 1) := by decide +kernel
theorem dX7_scan_1 : decode cX7_scan 1 = .ok (.getfield 29, 3) := by decide +kernel
theorem dX7_scan_4 : decode cX7_scan 4 = .ok (.aload_n 0, 1) := by decide +kernel
theorem dX7_scan_5 : decode cX7_scan 5 = .ok (.getfield 23, 3) := by decide +kernel
theorem dX7_scan_8 : decode cX7_scan 8 = .ok (.if_icmp .ge 29, 3) := by decide +kernel
theorem dX7_scan_11 : decode cX7_scan 11 = .ok (.aload_n 0, 1) := by decide +kernel
theorem dX7_scan_12 : decode cX7_scan 12 = .ok (.aload_n 0, 1) := by decide +kernel
theorem dX7_scan_13 : decode cX7_scan 13 = .ok (.getfield 29, 3) := by decide +kernel
theorem dX7_scan_16 : decode cX7_scan 16 = .ok (.invokevirtual 78, 3) := by decide +kernel
theorem dX7_scan_19 : decode cX7_scan 19 = .ok (.bipush 32, 2) := by decide +kernel
theorem dX7_scan_21 : decode cX7_scan 21 = .ok (.if_icmp .ne 16, 3) := by decide +kernel
theorem dX7_scan_24 : decode cX7_scan 24 = .ok (.aload_n 0, 1) := by decide +kernel
theorem dX7_scan_25 : decode cX7_scan 25 = .ok (.dup, 1) := by decide +kernel
theorem dX7_scan_26 : decode cX7_scan 26 = .ok (.getfield 29, 3) := by decide +kernel
theorem dX7_scan_29 : decode cX7_scan 29 = .ok (.iconst 1, 1) := by decide +kernel
theorem dX7_scan_30 : decode cX7_scan 30 = .ok (.iadd, 1) := by decide +kernel
theorem dX7_scan_31 : decode cX7_scan 31 = .ok (.putfield 29, 3) := by decide +kernel
theorem dX7_scan_34 : decode cX7_scan 34 = .ok (.goto (-34), 3) := by decide +kernel
theorem dX7_scan_37 : decode cX7_scan 37 = .ok (.aload_n 0, 1) := by decide +kernel
theorem dX7_scan_38 : decode cX7_scan 38 = .ok (.aload_n 0, 1) := by decide +kernel
theorem dX7_scan_39 : decode cX7_scan 39 = .ok (.getfield 29, 3) := by decide +kernel
theorem dX7_scan_42 : decode cX7_scan 42 = .ok (.putfield 70, 3) := by decide +kernel
theorem dX7_scan_45 : decode cX7_scan 45 = .ok (.aload_n 0, 1) := by decide +kernel
theorem dX7_scan_46 : decode cX7_scan 46 = .ok (.aload_n 0, 1) := by decide +kernel
theorem dX7_scan_47 : decode cX7_scan 47 = .ok (.getfield 29, 3) := by decide +kernel
theorem dX7_scan_50 : decode cX7_scan 50 = .ok (.invokevirtual 78, 3) := by decide +kernel
theorem dX7_scan_53 : decode cX7_scan 53 = .ok (.istore_n 1, 1) := by decide +kernel
theorem dX7_scan_54 : decode cX7_scan 54 = .ok (.iload_n 1, 1) := by decide +kernel
theorem dX7_scan_55 : decode cX7_scan 55 = .ok (.ifCond .ge 11, 3) := by decide +kernel
theorem dX7_scan_58 : decode cX7_scan 58 = .ok (.aload_n 0, 1) := by decide +kernel
theorem dX7_scan_59 : decode cX7_scan 59 = .ok (.iconst 0, 1) := by decide +kernel
theorem dX7_scan_60 : decode cX7_scan 60 = .ok (.putfield 38, 3) := by decide +kernel
theorem dX7_scan_63 : decode cX7_scan 63 = .ok (.goto 66, 3) := by decide +kernel
theorem dX7_scan_66 : decode cX7_scan 66 = .ok (.iload_n 1, 1) := by decide +kernel
theorem dX7_scan_67 : decode cX7_scan 67 = .ok (.invokestatic 88, 3) := by decide +kernel
theorem dX7_scan_70 : decode cX7_scan 70 = .ok (.ifCond .eq 15, 3) := by decide +kernel
theorem dX7_scan_73 : decode cX7_scan 73 = .ok (.aload_n 0, 1) := by decide +kernel
theorem dX7_scan_74 : decode cX7_scan 74 = .ok (.iconst 1, 1) := by decide +kernel
theorem dX7_scan_75 : decode cX7_scan 75 = .ok (.putfield 38, 3) := by decide +kernel
theorem dX7_scan_78 : decode cX7_scan 78 = .ok (.aload_n 0, 1) := by decide +kernel
theorem dX7_scan_79 : decode cX7_scan 79 = .ok (.invokevirtual 91, 3) := by decide +kernel
theorem dX7_scan_82 : decode cX7_scan 82 = .ok (.goto 47, 3) := by decide +kernel
theorem dX7_scan_85 : decode cX7_scan 85 = .ok (.iload_n 1, 1) := by decide +kernel
theorem dX7_scan_86 : decode cX7_scan 86 = .ok (.invokestatic 94, 3) := by decide +kernel
theorem dX7_scan_89 : decode cX7_scan 89 = .ok (.ifCond .eq 15, 3) := by decide +kernel
theorem dX7_scan_92 : decode cX7_scan 92 = .ok (.aload_n 0, 1) := by decide +kernel
theorem dX7_scan_93 : decode cX7_scan 93 = .ok (.iconst 2, 1) := by decide +kernel
theorem dX7_scan_94 : decode cX7_scan 94 = .ok (.putfield 38, 3) := by decide +kernel
theorem dX7_scan_97 : decode cX7_scan 97 = .ok (.aload_n 0, 1) := by decide +kernel
theorem dX7_scan_98 : decode cX7_scan 98 = .ok (.invokevirtual 97, 3) := by decide +kernel
theorem dX7_scan_101 : decode cX7_scan 101 = .ok (.goto 28, 3) := by decide +kernel
theorem dX7_scan_104 : decode cX7_scan 104 = .ok (.aload_n 0, 1) := by decide +kernel
theorem dX7_scan_105 : decode cX7_scan 105 = .ok (.iload_n 1, 1) := by decide +kernel
theorem dX7_scan_106 : decode cX7_scan 106 = .ok (.bipush 59, 2) := by decide +kernel
theorem dX7_scan_108 : decode cX7_scan 108 = .ok (.if_icmp .ne 7, 3) := by decide +kernel
theorem dX7_scan_111 : decode cX7_scan 111 = .ok (.iconst 3, 1) := by decide +kernel
theorem dX7_scan_112 : decode cX7_scan 112 = .ok (.goto 4, 3) := by decide +kernel
theorem dX7_scan_115 : decode cX7_scan 115 = .ok (.iconst 4, 1) := by decide +kernel
theorem dX7_scan_116 : decode cX7_scan 116 = .ok (.putfield 38, 3) := by decide +kernel
theorem dX7_scan_119 : decode cX7_scan 119 = .ok (.aload_n 0, 1) := by decide +kernel
theorem dX7_scan_120 : decode cX7_scan 120 = .ok (.dup, 1) := by decide +kernel
theorem dX7_scan_121 : decode cX7_scan 121 = .ok (.getfield 29, 3) := by decide +kernel
theorem dX7_scan_124 : decode cX7_scan 124 = .ok (.iconst 1, 1) := by decide +kernel
theorem dX7_scan_125 : decode cX7_scan 125 = .ok (.iadd, 1) := by decide +kernel
theorem dX7_scan_126 : decode cX7_scan 126 = .ok (.putfield 29, 3) := by decide +kernel
theorem dX7_scan_129 : decode cX7_scan 129 = .ok (.return_, 1) := by decide +kernel
theorem dX7_passWord_0 : decode cX7_passWord 0 = .ok (.aload_n 0, 1) := by decide +kernel
theorem dX7_passWord_1 : decode cX7_passWord 1 = .ok (.getfield 29, 3) := by decide +kernel
theorem dX7_passWord_4 : decode cX7_passWord 4 = .ok (.aload_n 0, 1) := by decide +kernel
theorem dX7_passWord_5 : decode cX7_passWord 5 = .ok (.getfield 23, 3) := by decide +kernel
theorem dX7_passWord_8 : decode cX7_passWord 8 = .ok (.if_icmp .ge 30, 3) := by decide +kernel
theorem dX7_passWord_11 : decode cX7_passWord 11 = .ok (.aload_n 0, 1) := by decide +kernel
theorem dX7_passWord_12 : decode cX7_passWord 12 = .ok (.aload_n 0, 1) := by decide +kernel
theorem dX7_passWord_13 : decode cX7_passWord 13 = .ok (.getfield 29, 3) := by decide +kernel
theorem dX7_passWord_16 : decode cX7_passWord 16 = .ok (.invokevirtual 78, 3) := by decide +kernel
theorem dX7_passWord_19 : decode cX7_passWord 19 = .ok (.invokestatic 88, 3) := by decide +kernel
theorem dX7_passWord_22 : decode cX7_passWord 22 = .ok (.ifCond .eq 16, 3) := by decide +kernel
theorem dX7_passWord_25 : decode cX7_passWord 25 = .ok (.aload_n 0, 1) := by decide +kernel
theorem dX7_passWord_26 : decode cX7_passWord 26 = .ok (.dup, 1) := by decide +kernel
theorem dX7_passWord_27 : decode cX7_passWord 27 = .ok (.getfield 29, 3) := by decide +kernel
theorem dX7_passWord_30 : decode cX7_passWord 30 = .ok (.iconst 1, 1) := by decide +kernel
theorem dX7_passWord_31 : decode cX7_passWord 31 = .ok (.iadd, 1) := by decide +kernel
theorem dX7_passWord_32 : decode cX7_passWord 32 = .ok (.putfield 29, 3) := by decide +kernel
theorem dX7_passWord_35 : decode cX7_passWord 35 = .ok (.goto (-35), 3) := by decide +kernel
theorem dX7_passWord_38 : decode cX7_passWord 38 = .ok (.return_, 1) := by decide +kernel
theorem dX7_passNumber_0 : decode cX7_passNumber 0 = .ok (.aload_n 0, 1) := by decide +kernel
theorem dX7_passNumber_1 : decode cX7_passNumber 1 = .ok (.iconst 0, 1) := by decide +kernel
theorem dX7_passNumber_2 : decode cX7_passNumber 2 = .ok (.putfield 85, 3) := by decide +kernel
theorem dX7_passNumber_5 : decode cX7_passNumber 5 = .ok (.aload_n 0, 1) := by decide +kernel
theorem dX7_passNumber_6 : decode cX7_passNumber 6 = .ok (.getfield 29, 3) := by decide +kernel
theorem dX7_passNumber_9 : decode cX7_passNumber 9 = .ok (.aload_n 0, 1) := by decide +kernel
theorem dX7_passNumber_10 : decode cX7_passNumber 10 = .ok (.getfield 23, 3) := by decide +kernel
theorem dX7_passNumber_13 : decode cX7_passNumber 13 = .ok (.if_icmp .ge 70, 3) := by decide +kernel
theorem dX7_passNumber_16 : decode cX7_passNumber 16 = .ok (.aload_n 0, 1) := by decide +kernel
theorem dX7_passNumber_17 : decode cX7_passNumber 17 = .ok (.aload_n 0, 1) := by decide +kernel
theorem dX7_passNumber_18 : decode cX7_passNumber 18 = .ok (.getfield 29, 3) := by decide +kernel
theorem dX7_passNumber_21 : decode cX7_passNumber 21 = .ok (.invokevirtual 78, 3) := by decide +kernel
theorem dX7_passNumber_24 : decode cX7_passNumber 24 = .ok (.invokestatic 94, 3) := by decide +kernel
theorem dX7_passNumber_27 : decode cX7_passNumber 27 = .ok (.ifCond .eq 56, 3) := by decide +kernel
theorem dX7_passNumber_30 : decode cX7_passNumber 30 = .ok (.aload_n 0, 1) := by decide +kernel
theorem dX7_passNumber_31 : decode cX7_passNumber 31 = .ok (.aload_n 0, 1) := by decide +kernel
theorem dX7_passNumber_32 : decode cX7_passNumber 32 = .ok (.getfield 29, 3) := by decide +kernel
theorem dX7_passNumber_35 : decode cX7_passNumber 35 = .ok (.aload_n 0, 1) := by decide +kernel
theorem dX7_passNumber_36 : decode cX7_passNumber 36 = .ok (.getfield 70, 3) := by decide +kernel
theorem dX7_passNumber_39 : decode cX7_passNumber 39 = .ok (.isub, 1) := by decide +kernel
theorem dX7_passNumber_40 : decode cX7_passNumber 40 = .ok (.iconst 3, 1) := by decide +kernel
theorem dX7_passNumber_41 : decode cX7_passNumber 41 = .ok (.if_icmp .ge 25, 3) := by decide +kernel
theorem dX7_passNumber_44 : decode cX7_passNumber 44 = .ok (.bipush 10, 2) := by decide +kernel
theorem dX7_passNumber_46 : decode cX7_passNumber 46 = .ok (.aload_n 0, 1) := by decide +kernel
theorem dX7_passNumber_47 : decode cX7_passNumber 47 = .ok (.getfield 85, 3) := by decide +kernel
theorem dX7_passNumber_50 : decode cX7_passNumber 50 = .ok (.imul, 1) := by decide +kernel
theorem dX7_passNumber_51 : decode cX7_passNumber 51 = .ok (.aload_n 0, 1) := by decide +kernel
theorem dX7_passNumber_52 : decode cX7_passNumber 52 = .ok (.aload_n 0, 1) := by decide +kernel
theorem dX7_passNumber_53 : decode cX7_passNumber 53 = .ok (.getfield 29, 3) := by decide +kernel
theorem dX7_passNumber_56 : decode cX7_passNumber 56 = .ok (.invokevirtual 78, 3) := by decide +kernel
theorem dX7_passNumber_59 : decode cX7_passNumber 59 = .ok (.iadd, 1) := by decide +kernel
theorem dX7_passNumber_60 : decode cX7_passNumber 60 = .ok (.bipush 48, 2) := by decide +kernel
theorem dX7_passNumber_62 : decode cX7_passNumber 62 = .ok (.isub, 1) := by decide +kernel
theorem dX7_passNumber_63 : decode cX7_passNumber 63 = .ok (.goto 4, 3) := by decide +kernel
theorem dX7_passNumber_66 : decode cX7_passNumber 66 = .ok (.iconst (-1), 1) := by decide +kernel
theorem dX7_passNumber_67 : decode cX7_passNumber 67 = .ok (.putfield 85, 3) := by decide +kernel
theorem dX7_passNumber_70 : decode cX7_passNumber 70 = .ok (.aload_n 0, 1) := by decide +kernel
theorem dX7_passNumber_71 : decode cX7_passNumber 71 = .ok (.dup, 1) := by decide +kernel
theorem dX7_passNumber_72 : decode cX7_passNumber 72 = .ok (.getfield 29, 3) := by decide +kernel
theorem dX7_passNumber_75 : decode cX7_passNumber 75 = .ok (.iconst 1, 1) := by decide +kernel
theorem dX7_passNumber_76 : decode cX7_passNumber 76 = .ok (.iadd, 1) := by decide +kernel
theorem dX7_passNumber_77 : decode cX7_passNumber 77 = .ok (.putfield 29, 3) := by decide +kernel
theorem dX7_passNumber_80 : decode cX7_passNumber 80 = .ok (.goto (-75), 3) := by decide +kernel
theorem dX7_passNumber_83 : decode cX7_passNumber 83 = .ok (.return_, 1) := by decide +kernel
theorem dX7_byteAt_0 : decode cX7_byteAt 0 = .ok (.iload_n 1, 1) := by decide +kernel
theorem dX7_byteAt_1 : decode cX7_byteAt 1 = .ok (.ifCond .lt 27, 3) := by decide +kernel
theorem dX7_byteAt_4 : decode cX7_byteAt 4 = .ok (.iload_n 1, 1) := by decide +kernel
theorem dX7_byteAt_5 : decode cX7_byteAt 5 = .ok (.aload_n 0, 1) := by decide +kernel
theorem dX7_byteAt_6 : decode cX7_byteAt 6 = .ok (.getfield 23, 3) := by decide +kernel
theorem dX7_byteAt_9 : decode cX7_byteAt 9 = .ok (.if_icmp .ge 19, 3) := by decide +kernel
theorem dX7_byteAt_12 : decode cX7_byteAt 12 = .ok (.iload_n 1, 1) := by decide +kernel
theorem dX7_byteAt_13 : decode cX7_byteAt 13 = .ok (.sipush 150, 3) := by decide +kernel
theorem dX7_byteAt_16 : decode cX7_byteAt 16 = .ok (.if_icmp .ge 12, 3) := by decide +kernel
theorem dX7_byteAt_19 : decode cX7_byteAt 19 = .ok (.aload_n 0, 1) := by decide +kernel
theorem dX7_byteAt_20 : decode cX7_byteAt 20 = .ok (.getfield 19, 3) := by decide +kernel
theorem dX7_byteAt_23 : decode cX7_byteAt 23 = .ok (.iload_n 1, 1) := by decide +kernel
theorem dX7_byteAt_24 : decode cX7_byteAt 24 = .ok (.baload, 1) := by decide +kernel
theorem dX7_byteAt_25 : decode cX7_byteAt 25 = .ok (.goto 4, 3) := by decide +kernel
theorem dX7_byteAt_28 : decode cX7_byteAt 28 = .ok (.iconst (-1), 1) := by decide +kernel
theorem dX7_byteAt_29 : decode cX7_byteAt 29 = .ok (.ireturn, 1) := by decide +kernel
theorem dX7_isLetter_0 : decode cX7_isLetter 0 = .ok (.iload_n 0, 1) := by decide +kernel
theorem dX7_isLetter_1 : decode cX7_isLetter 1 = .ok (.bipush 97, 2) := by decide +kernel
theorem dX7_isLetter_3 : decode cX7_isLetter 3 = .ok (.if_icmp .lt 13, 3) := by decide +kernel
theorem dX7_isLetter_6 : decode cX7_isLetter 6 = .ok (.iload_n 0, 1) := by decide +kernel
theorem dX7_isLetter_7 : decode cX7_isLetter 7 = .ok (.bipush 122, 2) := by decide +kernel
theorem dX7_isLetter_9 : decode cX7_isLetter 9 = .ok (.if_icmp .gt 7, 3) := by decide +kernel
theorem dX7_isLetter_12 : decode cX7_isLetter 12 = .ok (.iconst 1, 1) := by decide +kernel
theorem dX7_isLetter_13 : decode cX7_isLetter 13 = .ok (.goto 4, 3) := by decide +kernel
theorem dX7_isLetter_16 : decode cX7_isLetter 16 = .ok (.iconst 0, 1) := by decide +kernel
theorem dX7_isLetter_17 : decode cX7_isLetter 17 = .ok (.ireturn, 1) := by decide +kernel
theorem dX7_isFigure_0 : decode cX7_isFigure 0 = .ok (.iload_n 0, 1) := by decide +kernel
theorem dX7_isFigure_1 : decode cX7_isFigure 1 = .ok (.bipush 48, 2) := by decide +kernel
theorem dX7_isFigure_3 : decode cX7_isFigure 3 = .ok (.if_icmp .lt 13, 3) := by decide +kernel
theorem dX7_isFigure_6 : decode cX7_isFigure 6 = .ok (.iload_n 0, 1) := by decide +kernel
theorem dX7_isFigure_7 : decode cX7_isFigure 7 = .ok (.bipush 57, 2) := by decide +kernel
theorem dX7_isFigure_9 : decode cX7_isFigure 9 = .ok (.if_icmp .gt 7, 3) := by decide +kernel
theorem dX7_isFigure_12 : decode cX7_isFigure 12 = .ok (.iconst 1, 1) := by decide +kernel
theorem dX7_isFigure_13 : decode cX7_isFigure 13 = .ok (.goto 4, 3) := by decide +kernel
theorem dX7_isFigure_16 : decode cX7_isFigure 16 = .ok (.iconst 0, 1) := by decide +kernel
theorem dX7_isFigure_17 : decode cX7_isFigure 17 = .ok (.ireturn, 1) := by decide +kernel
theorem dX8_init_0 : decode cX8_init 0 = .ok (.aload_n 0, 1) := by decide +kernel
theorem dX8_init_1 : decode cX8_init 1 = .ok (.aload_n 1, 1) := by decide +kernel
theorem dX8_init_2 : decode cX8_init 2 = .ok (.invokespecial 1, 3) := by decide +kernel
theorem dX8_init_5 : decode cX8_init 5 = .ok (.return_, 1) := by decide +kernel
theorem dX8_lets_0 : decode cX8_lets 0 = .ok (.iload_n 1, 1) := by decide +kernel
theorem dX8_lets_1 : decode cX8_lets 1 = .ok (.iload_n 2, 1) := by decide +kernel
theorem dX8_lets_2 : decode cX8_lets 2 = .ok (.isub, 1) := by decide +kernel
theorem dX8_lets_3 : decode cX8_lets 3 = .ok (.invokestatic 7, 3) := by decide +kernel
theorem dX8_lets_6 : decode cX8_lets 6 = .ok (.iload_n 3, 1) := by decide +kernel
theorem dX8_lets_7 : decode cX8_lets 7 = .ok (.if_icmp .lt 17, 3) := by decide +kernel
theorem dX8_lets_10 : decode cX8_lets 10 = .ok (.aload_n 0, 1) := by decide +kernel
theorem dX8_lets_11 : decode cX8_lets 11 = .ok (.iload_n 1, 1) := by decide +kernel
theorem dX8_lets_12 : decode cX8_lets 12 = .ok (.iload_n 2, 1) := by decide +kernel
theorem dX8_lets_13 : decode cX8_lets 13 = .ok (.iload_n 3, 1) := by decide +kernel
theorem dX8_lets_14 : decode cX8_lets 14 = .ok (.invokespecial 13, 3) := by decide +kernel
theorem dX8_lets_17 : decode cX8_lets 17 = .ok (.ifCond .eq 7, 3) := by decide +kernel
theorem dX8_lets_20 : decode cX8_lets 20 = .ok (.iconst 1, 1) := by decide +kernel
theorem dX8_lets_21 : decode cX8_lets 21 = .ok (.goto 4, 3) := by decide +kernel
theorem dX8_lets_24 : decode cX8_lets 24 = .ok (.iconst 0, 1) := by decide +kernel
theorem dX8_lets_25 : decode cX8_lets 25 = .ok (.ireturn, 1) := by decide +kernel
theorem dX9_init_0 : decode cX9_init 0 = .ok (.aload_n 0, 1) := by decide +kernel
theorem dX9_init_1 : decode cX9_init 1 = .ok (.aload_n 1, 1) := by decide +kernel
theorem dX9_init_2 : decode cX9_init 2 = .ok (.invokespecial 1, 3) := by decide +kernel
theorem dX9_init_5 : decode cX9_init 5 = .ok (.return_, 1) := by decide +kernel
theorem dX9_lets_0 : decode cX9_lets 0 = .ok (.aload_n 0, 1) := by decide +kernel
theorem dX9_lets_1 : decode cX9_lets 1 = .ok (.iload_n 1, 1) := by decide +kernel
theorem dX9_lets_2 : decode cX9_lets 2 = .ok (.iload_n 2, 1) := by decide +kernel
theorem dX9_lets_3 : decode cX9_lets 3 = .ok (.iload_n 3, 1) := by decide +kernel
theorem dX9_lets_4 : decode cX9_lets 4 = .ok (.invokespecial 7, 3) := by decide +kernel
theorem dX9_lets_7 : decode cX9_lets 7 = .ok (.ifCond .ne 25, 3) := by decide +kernel
theorem dX9_lets_10 : decode cX9_lets 10 = .ok (.aload_n 0, 1) := by decide +kernel
theorem dX9_lets_11 : decode cX9_lets 11 = .ok (.getfield 11, 3) := by decide +kernel
theorem dX9_lets_14 : decode cX9_lets 14 = .ok (.iload_n 1, 1) := by decide +kernel
theorem dX9_lets_15 : decode cX9_lets 15 = .ok (.invokevirtual 17, 3) := by decide +kernel
theorem dX9_lets_18 : decode cX9_lets 18 = .ok (.ifCond .eq 18, 3) := by decide +kernel
theorem dX9_lets_21 : decode cX9_lets 21 = .ok (.aload_n 0, 1) := by decide +kernel
theorem dX9_lets_22 : decode cX9_lets 22 = .ok (.getfield 11, 3) := by decide +kernel
theorem dX9_lets_25 : decode cX9_lets 25 = .ok (.iload_n 2, 1) := by decide +kernel
theorem dX9_lets_26 : decode cX9_lets 26 = .ok (.invokevirtual 17, 3) := by decide +kernel
theorem dX9_lets_29 : decode cX9_lets 29 = .ok (.ifCond .eq 7, 3) := by decide +kernel
theorem dX9_lets_32 : decode cX9_lets 32 = .ok (.iconst 1, 1) := by decide +kernel
theorem dX9_lets_33 : decode cX9_lets 33 = .ok (.goto 4, 3) := by decide +kernel
theorem dX9_lets_36 : decode cX9_lets 36 = .ok (.iconst 0, 1) := by decide +kernel
theorem dX9_lets_37 : decode cX9_lets 37 = .ok (.ireturn, 1) := by decide +kernel
theorem dX10_init_0 : decode cX10_init 0 = .ok (.aload_n 0, 1) := by decide +kernel
theorem dX10_init_1 : decode cX10_init 1 = .ok (.invokespecial 3, 3) := by decide +kernel
theorem dX10_init_4 : decode cX10_init 4 = .ok (.aload_n 0, 1) := by decide +kernel
theorem dX10_init_5 : decode cX10_init 5 = .ok (.bipush 8, 2) := by decide +kernel
theorem dX10_init_7 : decode cX10_init 7 = .ok (.newarray .int, 2) := by decide +kernel
theorem dX10_init_9 : decode cX10_init 9 = .ok (.putfield 9, 3) := by decide +kernel
theorem dX10_init_12 : decode cX10_init 12 = .ok (.aload_n 0, 1) := by decide +kernel
theorem dX10_init_13 : decode cX10_init 13 = .ok (.bipush 24, 2) := by decide +kernel
theorem dX10_init_15 : decode cX10_init 15 = .ok (.newarray .int, 2) := by decide +kernel
theorem dX10_init_17 : decode cX10_init 17 = .ok (.putfield 15, 3) := by decide +kernel
theorem dX10_init_20 : decode cX10_init 20 = .ok (.aload_n 0, 1) := by decide +kernel
theorem dX10_init_21 : decode cX10_init 21 = .ok (.bipush 24, 2) := by decide +kernel
theorem dX10_init_23 : decode cX10_init 23 = .ok (.newarray .int, 2) := by decide +kernel
theorem dX10_init_25 : decode cX10_init 25 = .ok (.putfield 18, 3) := by decide +kernel
theorem dX10_init_28 : decode cX10_init 28 = .ok (.aload_n 0, 1) := by decide +kernel
theorem dX10_init_29 : decode cX10_init 29 = .ok (.bipush 72, 2) := by decide +kernel
theorem dX10_init_31 : decode cX10_init 31 = .ok (.newarray .int, 2) := by decide +kernel
theorem dX10_init_33 : decode cX10_init 33 = .ok (.putfield 21, 3) := by decide +kernel
theorem dX10_init_36 : decode cX10_init 36 = .ok (.return_, 1) := by decide +kernel
theorem dX10_begin_0 : decode cX10_begin 0 = .ok (.iconst 0, 1) := by decide +kernel
theorem dX10_begin_1 : decode cX10_begin 1 = .ok (.istore_n 2, 1) := by decide +kernel
theorem dX10_begin_2 : decode cX10_begin 2 = .ok (.iload_n 2, 1) := by decide +kernel
theorem dX10_begin_3 : decode cX10_begin 3 = .ok (.bipush 8, 2) := by decide +kernel
theorem dX10_begin_5 : decode cX10_begin 5 = .ok (.if_icmp .ge 16, 3) := by decide +kernel
theorem dX10_begin_8 : decode cX10_begin 8 = .ok (.aload_n 0, 1) := by decide +kernel
theorem dX10_begin_9 : decode cX10_begin 9 = .ok (.getfield 9, 3) := by decide +kernel
theorem dX10_begin_12 : decode cX10_begin 12 = .ok (.iload_n 2, 1) := by decide +kernel
theorem dX10_begin_13 : decode cX10_begin 13 = .ok (.iconst 0, 1) := by decide +kernel
theorem dX10_begin_14 : decode cX10_begin 14 = .ok (.iastore, 1) := by decide +kernel
theorem dX10_begin_15 : decode cX10_begin 15 = .ok (.iinc 2 1, 3) := by decide +kernel
theorem dX10_begin_18 : decode cX10_begin 18 = .ok (.goto (-16), 3) := by decide +kernel
theorem dX10_begin_21 : decode cX10_begin 21 = .ok (.aload_n 0, 1) := by decide +kernel
theorem dX10_begin_22 : decode cX10_begin 22 = .ok (.iload_n 1, 1) := by decide +kernel
theorem dX10_begin_23 : decode cX10_begin 23 = .ok (.putfield 24, 3) := by decide +kernel
theorem dX10_begin_26 : decode cX10_begin 26 = .ok (.aload_n 0, 1) := by decide +kernel
theorem dX10_begin_27 : decode cX10_begin 27 = .ok (.iconst 0, 1) := by decide +kernel
theorem dX10_begin_28 : decode cX10_begin 28 = .ok (.putfield 28, 3) := by decide +kernel
theorem dX10_begin_31 : decode cX10_begin 31 = .ok (.aload_n 0, 1) := by decide +kernel
theorem dX10_begin_32 : decode cX10_begin 32 = .ok (.iconst 0, 1) := by decide +kernel
theorem dX10_begin_33 : decode cX10_begin 33 = .ok (.putfield 31, 3) := by decide +kernel
theorem dX10_begin_36 : decode cX10_begin 36 = .ok (.aload_n 0, 1) := by decide +kernel
theorem dX10_begin_37 : decode cX10_begin 37 = .ok (.iconst 0, 1) := by decide +kernel
theorem dX10_begin_38 : decode cX10_begin 38 = .ok (.putfield 34, 3) := by decide +kernel
theorem dX10_begin_41 : decode cX10_begin 41 = .ok (.return_, 1) := by decide +kernel
theorem dX10_copyFrom_0 : decode cX10_copyFrom 0 = .ok (.aload_n 1, 1) := by decide +kernel
theorem dX10_copyFrom_1 : decode cX10_copyFrom 1 = .ok (.getfield 9, 3) := by decide +kernel
theorem dX10_copyFrom_4 : decode cX10_copyFrom 4 = .ok (.iconst 0, 1) := by decide +kernel
theorem dX10_copyFrom_5 : decode cX10_copyFrom 5 = .ok (.aload_n 0, 1) := by decide +kernel
theorem dX10_copyFrom_6 : decode cX10_copyFrom 6 = .ok (.getfield 9, 3) := by decide +kernel
theorem dX10_copyFrom_9 : decode cX10_copyFrom 9 = .ok (.iconst 0, 1) := by decide +kernel
theorem dX10_copyFrom_10 : decode cX10_copyFrom 10 = .ok (.bipush 8, 2) := by decide +kernel
theorem dX10_copyFrom_12 : decode cX10_copyFrom 12 = .ok (.invokestatic 37, 3) := by decide +kernel
theorem dX10_copyFrom_15 : decode cX10_copyFrom 15 = .ok (.aload_n 1, 1) := by decide +kernel
theorem dX10_copyFrom_16 : decode cX10_copyFrom 16 = .ok (.getfield 15, 3) := by decide +kernel
theorem dX10_copyFrom_19 : decode cX10_copyFrom 19 = .ok (.iconst 0, 1) := by decide +kernel
theorem dX10_copyFrom_20 : decode cX10_copyFrom 20 = .ok (.aload_n 0, 1) := by decide +kernel
theorem dX10_copyFrom_21 : decode cX10_copyFrom 21 = .ok (.getfield 15, 3) := by decide +kernel
theorem dX10_copyFrom_24 : decode cX10_copyFrom 24 = .ok (.iconst 0, 1) := by decide +kernel
theorem dX10_copyFrom_25 : decode cX10_copyFrom 25 = .ok (.bipush 24, 2) := by decide +kernel
theorem dX10_copyFrom_27 : decode cX10_copyFrom 27 = .ok (.invokestatic 37, 3) := by decide +kernel
theorem dX10_copyFrom_30 : decode cX10_copyFrom 30 = .ok (.aload_n 1, 1) := by decide +kernel
theorem dX10_copyFrom_31 : decode cX10_copyFrom 31 = .ok (.getfield 18, 3) := by decide +kernel
theorem dX10_copyFrom_34 : decode cX10_copyFrom 34 = .ok (.iconst 0, 1) := by decide +kernel
theorem dX10_copyFrom_35 : decode cX10_copyFrom 35 = .ok (.aload_n 0, 1) := by decide +kernel
theorem dX10_copyFrom_36 : decode cX10_copyFrom 36 = .ok (.getfield 18, 3) := by decide +kernel
theorem dX10_copyFrom_39 : decode cX10_copyFrom 39 = .ok (.iconst 0, 1) := by decide +kernel
theorem dX10_copyFrom_40 : decode cX10_copyFrom 40 = .ok (.bipush 24, 2) := by decide +kernel
theorem dX10_copyFrom_42 : decode cX10_copyFrom 42 = .ok (.invokestatic 37, 3) := by decide +kernel
theorem dX10_copyFrom_45 : decode cX10_copyFrom 45 = .ok (.aload_n 1, 1) := by decide +kernel
theorem dX10_copyFrom_46 : decode cX10_copyFrom 46 = .ok (.getfield 21, 3) := by decide +kernel
theorem dX10_copyFrom_49 : decode cX10_copyFrom 49 = .ok (.iconst 0, 1) := by decide +kernel
theorem dX10_copyFrom_50 : decode cX10_copyFrom 50 = .ok (.aload_n 0, 1) := by decide +kernel
theorem dX10_copyFrom_51 : decode cX10_copyFrom 51 = .ok (.getfield 21, 3) := by decide +kernel
theorem dX10_copyFrom_54 : decode cX10_copyFrom 54 = .ok (.iconst 0, 1) := by decide +kernel
theorem dX10_copyFrom_55 : decode cX10_copyFrom 55 = .ok (.bipush 72, 2) := by decide +kernel
theorem dX10_copyFrom_57 : decode cX10_copyFrom 57 = .ok (.invokestatic 37, 3) := by decide +kernel
theorem dX10_copyFrom_60 : decode cX10_copyFrom 60 = .ok (.aload_n 0, 1) := by decide +kernel
theorem dX10_copyFrom_61 : decode cX10_copyFrom 61 = .ok (.aload_n 1, 1) := by decide +kernel
theorem dX10_copyFrom_62 : decode cX10_copyFrom 62 = .ok (.getfield 24, 3) := by decide +kernel
theorem dX10_copyFrom_65 : decode cX10_copyFrom 65 = .ok (.putfield 24, 3) := by decide +kernel
theorem dX10_copyFrom_68 : decode cX10_copyFrom 68 = .ok (.aload_n 0, 1) := by decide +kernel
theorem dX10_copyFrom_69 : decode cX10_copyFrom 69 = .ok (.aload_n 1, 1) := by decide +kernel
theorem dX10_copyFrom_70 : decode cX10_copyFrom 70 = .ok (.getfield 28, 3) := by decide +kernel
theorem dX10_copyFrom_73 : decode cX10_copyFrom 73 = .ok (.putfield 28, 3) := by decide +kernel
theorem dX10_copyFrom_76 : decode cX10_copyFrom 76 = .ok (.aload_n 0, 1) := by decide +kernel
theorem dX10_copyFrom_77 : decode cX10_copyFrom 77 = .ok (.aload_n 1, 1) := by decide +kernel
theorem dX10_copyFrom_78 : decode cX10_copyFrom 78 = .ok (.getfield 31, 3) := by decide +kernel
theorem dX10_copyFrom_81 : decode cX10_copyFrom 81 = .ok (.putfield 31, 3) := by decide +kernel
theorem dX10_copyFrom_84 : decode cX10_copyFrom 84 = .ok (.aload_n 0, 1) := by decide +kernel
theorem dX10_copyFrom_85 : decode cX10_copyFrom 85 = .ok (.aload_n 1, 1) := by decide +kernel
theorem dX10_copyFrom_86 : decode cX10_copyFrom 86 = .ok (.getfield 34, 3) := by decide +kernel
theorem dX10_copyFrom_89 : decode cX10_copyFrom 89 = .ok (.putfield 34, 3) := by decide +kernel
theorem dX10_copyFrom_92 : decode cX10_copyFrom 92 = .ok (.return_, 1) := by decide +kernel
theorem dX10_living_0 : decode cX10_living 0 = .ok (.iconst 0, 1) := by decide +kernel
theorem dX10_living_1 : decode cX10_living 1 = .ok (.istore_n 1, 1) := by decide +kernel
theorem dX10_living_2 : decode cX10_living 2 = .ok (.iconst 0, 1) := by decide +kernel
theorem dX10_living_3 : decode cX10_living 3 = .ok (.istore_n 2, 1) := by decide +kernel
theorem dX10_living_4 : decode cX10_living 4 = .ok (.iload_n 2, 1) := by decide +kernel
theorem dX10_living_5 : decode cX10_living 5 = .ok (.bipush 8, 2) := by decide +kernel
theorem dX10_living_7 : decode cX10_living 7 = .ok (.if_icmp .ge 21, 3) := by decide +kernel
theorem dX10_living_10 : decode cX10_living 10 = .ok (.aload_n 0, 1) := by decide +kernel
theorem dX10_living_11 : decode cX10_living 11 = .ok (.getfield 9, 3) := by decide +kernel
theorem dX10_living_14 : decode cX10_living 14 = .ok (.iload_n 2, 1) := by decide +kernel
theorem dX10_living_15 : decode cX10_living 15 = .ok (.iaload, 1) := by decide +kernel
theorem dX10_living_16 : decode cX10_living 16 = .ok (.ifCond .le 6, 3) := by decide +kernel
theorem dX10_living_19 : decode cX10_living 19 = .ok (.iinc 1 1, 3) := by decide +kernel
theorem dX10_living_22 : decode cX10_living 22 = .ok (.iinc 2 1, 3) := by decide +kernel
theorem dX10_living_25 : decode cX10_living 25 = .ok (.goto (-21), 3) := by decide +kernel
theorem dX10_living_28 : decode cX10_living 28 = .ok (.iload_n 1, 1) := by decide +kernel
theorem dX10_living_29 : decode cX10_living 29 = .ok (.ireturn, 1) := by decide +kernel
theorem dX10_remember_0 : decode cX10_remember 0 = .ok (.aload_n 0, 1) := by decide +kernel
theorem dX10_remember_1 : decode cX10_remember 1 = .ok (.getfield 34, 3) := by decide +kernel
theorem dX10_remember_4 : decode cX10_remember 4 = .ok (.bipush 8, 2) := by decide +kernel
theorem dX10_remember_6 : decode cX10_remember 6 = .ok (.if_icmp .lt 25, 3) := by decide +kernel
theorem dX10_remember_9 : decode cX10_remember 9 = .ok (.aload_n 0, 1) := by decide +kernel
theorem dX10_remember_10 : decode cX10_remember 10 = .ok (.getfield 21, 3) := by decide +kernel
theorem dX10_remember_13 : decode cX10_remember 13 = .ok (.bipush 9, 2) := by decide +kernel
theorem dX10_remember_15 : decode cX10_remember 15 = .ok (.aload_n 0, 1) := by decide +kernel
theorem dX10_remember_16 : decode cX10_remember 16 = .ok (.getfield 21, 3) := by decide +kernel
theorem dX10_remember_19 : decode cX10_remember 19 = .ok (.iconst 0, 1) := by decide +kernel
theorem dX10_remember_20 : decode cX10_remember 20 = .ok (.bipush 63, 2) := by decide +kernel
theorem dX10_remember_22 : decode cX10_remember 22 = .ok (.invokestatic 37, 3) := by decide +kernel
theorem dX10_remember_25 : decode cX10_remember 25 = .ok (.aload_n 0, 1) := by decide +kernel
theorem dX10_remember_26 : decode cX10_remember 26 = .ok (.bipush 7, 2) := by decide +kernel
theorem dX10_remember_28 : decode cX10_remember 28 = .ok (.putfield 34, 3) := by decide +kernel
theorem dX10_remember_31 : decode cX10_remember 31 = .ok (.aload_n 0, 1) := by decide +kernel
theorem dX10_remember_32 : decode cX10_remember 32 = .ok (.getfield 34, 3) := by decide +kernel
theorem dX10_remember_35 : decode cX10_remember 35 = .ok (.bipush 9, 2) := by decide +kernel
theorem dX10_remember_37 : decode cX10_remember 37 = .ok (.imul, 1) := by decide +kernel
theorem dX10_remember_38 : decode cX10_remember 38 = .ok (.istore_n 1, 1) := by decide +kernel
theorem dX10_remember_39 : decode cX10_remember 39 = .ok (.aload_n 0, 1) := by decide +kernel
theorem dX10_remember_40 : decode cX10_remember 40 = .ok (.getfield 9, 3) := by decide +kernel
theorem dX10_remember_43 : decode cX10_remember 43 = .ok (.iconst 0, 1) := by decide +kernel
theorem dX10_remember_44 : decode cX10_remember 44 = .ok (.aload_n 0, 1) := by decide +kernel
theorem dX10_remember_45 : decode cX10_remember 45 = .ok (.getfield 21, 3) := by decide +kernel
theorem dX10_remember_48 : decode cX10_remember 48 = .ok (.iload_n 1, 1) := by decide +kernel
theorem dX10_remember_49 : decode cX10_remember 49 = .ok (.bipush 8, 2) := by decide +kernel
theorem dX10_remember_51 : decode cX10_remember 51 = .ok (.invokestatic 37, 3) := by decide +kernel
theorem dX10_remember_54 : decode cX10_remember 54 = .ok (.aload_n 0, 1) := by decide +kernel
theorem dX10_remember_55 : decode cX10_remember 55 = .ok (.getfield 21, 3) := by decide +kernel
theorem dX10_remember_58 : decode cX10_remember 58 = .ok (.iload_n 1, 1) := by decide +kernel
theorem dX10_remember_59 : decode cX10_remember 59 = .ok (.bipush 8, 2) := by decide +kernel
theorem dX10_remember_61 : decode cX10_remember 61 = .ok (.iadd, 1) := by decide +kernel
theorem dX10_remember_62 : decode cX10_remember 62 = .ok (.aload_n 0, 1) := by decide +kernel
theorem dX10_remember_63 : decode cX10_remember 63 = .ok (.getfield 24, 3) := by decide +kernel
theorem dX10_remember_66 : decode cX10_remember 66 = .ok (.iastore, 1) := by decide +kernel
theorem dX10_remember_67 : decode cX10_remember 67 = .ok (.aload_n 0, 1) := by decide +kernel
theorem dX10_remember_68 : decode cX10_remember 68 = .ok (.dup, 1) := by decide +kernel
theorem dX10_remember_69 : decode cX10_remember 69 = .ok (.getfield 34, 3) := by decide +kernel
theorem dX10_remember_72 : decode cX10_remember 72 = .ok (.iconst 1, 1) := by decide +kernel
theorem dX10_remember_73 : decode cX10_remember 73 = .ok (.iadd, 1) := by decide +kernel
theorem dX10_remember_74 : decode cX10_remember 74 = .ok (.putfield 34, 3) := by decide +kernel
theorem dX10_remember_77 : decode cX10_remember 77 = .ok (.return_, 1) := by decide +kernel
theorem dX10_goBack_0 : decode cX10_goBack 0 = .ok (.aload_n 0, 1) := by decide +kernel
theorem dX10_goBack_1 : decode cX10_goBack 1 = .ok (.getfield 34, 3) := by decide +kernel
theorem dX10_goBack_4 : decode cX10_goBack 4 = .ok (.iconst 1, 1) := by decide +kernel
theorem dX10_goBack_5 : decode cX10_goBack 5 = .ok (.if_icmp .ge 5, 3) := by decide +kernel
theorem dX10_goBack_8 : decode cX10_goBack 8 = .ok (.iconst 0, 1) := by decide +kernel
theorem dX10_goBack_9 : decode cX10_goBack 9 = .ok (.ireturn, 1) := by decide +kernel
theorem dX10_goBack_10 : decode cX10_goBack 10 = .ok (.aload_n 0, 1) := by decide +kernel
theorem dX10_goBack_11 : decode cX10_goBack 11 = .ok (.dup, 1) := by decide +kernel
theorem dX10_goBack_12 : decode cX10_goBack 12 = .ok (.getfield 34, 3) := by decide +kernel
theorem dX10_goBack_15 : decode cX10_goBack 15 = .ok (.iconst 1, 1) := by decide +kernel
theorem dX10_goBack_16 : decode cX10_goBack 16 = .ok (.isub, 1) := by decide +kernel
theorem dX10_goBack_17 : decode cX10_goBack 17 = .ok (.putfield 34, 3) := by decide +kernel
theorem dX10_goBack_20 : decode cX10_goBack 20 = .ok (.aload_n 0, 1) := by decide +kernel
theorem dX10_goBack_21 : decode cX10_goBack 21 = .ok (.getfield 34, 3) := by decide +kernel
theorem dX10_goBack_24 : decode cX10_goBack 24 = .ok (.bipush 9, 2) := by decide +kernel
theorem dX10_goBack_26 : decode cX10_goBack 26 = .ok (.imul, 1) := by decide +kernel
theorem dX10_goBack_27 : decode cX10_goBack 27 = .ok (.istore_n 1, 1) := by decide +kernel
theorem dX10_goBack_28 : decode cX10_goBack 28 = .ok (.aload_n 0, 1) := by decide +kernel
theorem dX10_goBack_29 : decode cX10_goBack 29 = .ok (.getfield 21, 3) := by decide +kernel
theorem dX10_goBack_32 : decode cX10_goBack 32 = .ok (.iload_n 1, 1) := by decide +kernel
theorem dX10_goBack_33 : decode cX10_goBack 33 = .ok (.aload_n 0, 1) := by decide +kernel
theorem dX10_goBack_34 : decode cX10_goBack 34 = .ok (.getfield 9, 3) := by decide +kernel
theorem dX10_goBack_37 : decode cX10_goBack 37 = .ok (.iconst 0, 1) := by decide +kernel
theorem dX10_goBack_38 : decode cX10_goBack 38 = .ok (.bipush 8, 2) := by decide +kernel
theorem dX10_goBack_40 : decode cX10_goBack 40 = .ok (.invokestatic 37, 3) := by decide +kernel
theorem dX10_goBack_43 : decode cX10_goBack 43 = .ok (.aload_n 0, 1) := by decide +kernel
theorem dX10_goBack_44 : decode cX10_goBack 44 = .ok (.aload_n 0, 1) := by decide +kernel
theorem dX10_goBack_45 : decode cX10_goBack 45 = .ok (.getfield 21, 3) := by decide +kernel
theorem dX10_goBack_48 : decode cX10_goBack 48 = .ok (.iload_n 1, 1) := by decide +kernel
theorem dX10_goBack_49 : decode cX10_goBack 49 = .ok (.bipush 8, 2) := by decide +kernel
theorem dX10_goBack_51 : decode cX10_goBack 51 = .ok (.iadd, 1) := by decide +kernel
theorem dX10_goBack_52 : decode cX10_goBack 52 = .ok (.iaload, 1) := by decide +kernel
theorem dX10_goBack_53 : decode cX10_goBack 53 = .ok (.putfield 24, 3) := by decide +kernel
theorem dX10_goBack_56 : decode cX10_goBack 56 = .ok (.iconst 1, 1) := by decide +kernel
theorem dX10_goBack_57 : decode cX10_goBack 57 = .ok (.ireturn, 1) := by decide +kernel
theorem dX10_addReading_0 : decode cX10_addReading 0 = .ok (.aload_n 0, 1) := by decide +kernel
theorem dX10_addReading_1 : decode cX10_addReading 1 = .ok (.getfield 15, 3) := by decide +kernel
theorem dX10_addReading_4 : decode cX10_addReading 4 = .ok (.aload_n 0, 1) := by decide +kernel
theorem dX10_addReading_5 : decode cX10_addReading 5 = .ok (.getfield 28, 3) := by decide +kernel
theorem dX10_addReading_8 : decode cX10_addReading 8 = .ok (.iload_n 1, 1) := by decide +kernel
theorem dX10_addReading_9 : decode cX10_addReading 9 = .ok (.iload_n 2, 1) := by decide +kernel
theorem dX10_addReading_10 : decode cX10_addReading 10 = .ok (.aload_n 0, 1) := by decide +kernel
theorem dX10_addReading_11 : decode cX10_addReading 11 = .ok (.getfield 24, 3) := by decide +kernel
theorem dX10_addReading_14 : decode cX10_addReading 14 = .ok (.invokestatic 43, 3) := by decide +kernel
theorem dX10_addReading_17 : decode cX10_addReading 17 = .ok (.aload_n 0, 1) := by decide +kernel
theorem dX10_addReading_18 : decode cX10_addReading 18 = .ok (.dup, 1) := by decide +kernel
theorem dX10_addReading_19 : decode cX10_addReading 19 = .ok (.getfield 28, 3) := by decide +kernel
theorem dX10_addReading_22 : decode cX10_addReading 22 = .ok (.iconst 1, 1) := by decide +kernel
theorem dX10_addReading_23 : decode cX10_addReading 23 = .ok (.iadd, 1) := by decide +kernel
theorem dX10_addReading_24 : decode cX10_addReading 24 = .ok (.putfield 28, 3) := by decide +kernel
theorem dX10_addReading_27 : decode cX10_addReading 27 = .ok (.return_, 1) := by decide +kernel
theorem dX10_addNote_0 : decode cX10_addNote 0 = .ok (.aload_n 0, 1) := by decide +kernel
theorem dX10_addNote_1 : decode cX10_addNote 1 = .ok (.getfield 18, 3) := by decide +kernel
theorem dX10_addNote_4 : decode cX10_addNote 4 = .ok (.aload_n 0, 1) := by decide +kernel
theorem dX10_addNote_5 : decode cX10_addNote 5 = .ok (.getfield 31, 3) := by decide +kernel
theorem dX10_addNote_8 : decode cX10_addNote 8 = .ok (.iload_n 1, 1) := by decide +kernel
theorem dX10_addNote_9 : decode cX10_addNote 9 = .ok (.iload_n 2, 1) := by decide +kernel
theorem dX10_addNote_10 : decode cX10_addNote 10 = .ok (.iload_n 3, 1) := by decide +kernel
theorem dX10_addNote_11 : decode cX10_addNote 11 = .ok (.invokestatic 43, 3) := by decide +kernel
theorem dX10_addNote_14 : decode cX10_addNote 14 = .ok (.aload_n 0, 1) := by decide +kernel
theorem dX10_addNote_15 : decode cX10_addNote 15 = .ok (.dup, 1) := by decide +kernel
theorem dX10_addNote_16 : decode cX10_addNote 16 = .ok (.getfield 31, 3) := by decide +kernel
theorem dX10_addNote_19 : decode cX10_addNote 19 = .ok (.iconst 1, 1) := by decide +kernel
theorem dX10_addNote_20 : decode cX10_addNote 20 = .ok (.iadd, 1) := by decide +kernel
theorem dX10_addNote_21 : decode cX10_addNote 21 = .ok (.putfield 31, 3) := by decide +kernel
theorem dX10_addNote_24 : decode cX10_addNote 24 = .ok (.return_, 1) := by decide +kernel
theorem dX10_addThree_0 : decode cX10_addThree 0 = .ok (.iconst 3, 1) := by decide +kernel
theorem dX10_addThree_1 : decode cX10_addThree 1 = .ok (.iload_n 1, 1) := by decide +kernel
theorem dX10_addThree_2 : decode cX10_addThree 2 = .ok (.imul, 1) := by decide +kernel
theorem dX10_addThree_3 : decode cX10_addThree 3 = .ok (.istore 5, 2) := by decide +kernel
theorem dX10_addThree_5 : decode cX10_addThree 5 = .ok (.iload 5, 2) := by decide +kernel
theorem dX10_addThree_7 : decode cX10_addThree 7 = .ok (.ifCond .lt 32, 3) := by decide +kernel
theorem dX10_addThree_10 : decode cX10_addThree 10 = .ok (.iload 5, 2) := by decide +kernel
theorem dX10_addThree_12 : decode cX10_addThree 12 = .ok (.iconst 2, 1) := by decide +kernel
theorem dX10_addThree_13 : decode cX10_addThree 13 = .ok (.iadd, 1) := by decide +kernel
theorem dX10_addThree_14 : decode cX10_addThree 14 = .ok (.aload_n 0, 1) := by decide +kernel
theorem dX10_addThree_15 : decode cX10_addThree 15 = .ok (.arraylength, 1) := by decide +kernel
theorem dX10_addThree_16 : decode cX10_addThree 16 = .ok (.if_icmp .ge 23, 3) := by decide +kernel
theorem dX10_addThree_19 : decode cX10_addThree 19 = .ok (.aload_n 0, 1) := by decide +kernel
theorem dX10_addThree_20 : decode cX10_addThree 20 = .ok (.iload 5, 2) := by decide +kernel
theorem dX10_addThree_22 : decode cX10_addThree 22 = .ok (.iload_n 2, 1) := by decide +kernel
theorem dX10_addThree_23 : decode cX10_addThree 23 = .ok (.iastore, 1) := by decide +kernel
theorem dX10_addThree_24 : decode cX10_addThree 24 = .ok (.aload_n 0, 1) := by decide +kernel
theorem dX10_addThree_25 : decode cX10_addThree 25 = .ok (.iload 5, 2) := by decide +kernel
theorem dX10_addThree_27 : decode cX10_addThree 27 = .ok (.iconst 1, 1) := by decide +kernel
theorem dX10_addThree_28 : decode cX10_addThree 28 = .ok (.iadd, 1) := by decide +kernel
theorem dX10_addThree_29 : decode cX10_addThree 29 = .ok (.iload_n 3, 1) := by decide +kernel
theorem dX10_addThree_30 : decode cX10_addThree 30 = .ok (.iastore, 1) := by decide +kernel
theorem dX10_addThree_31 : decode cX10_addThree 31 = .ok (.aload_n 0, 1) := by decide +kernel
theorem dX10_addThree_32 : decode cX10_addThree 32 = .ok (.iload 5, 2) := by decide +kernel
theorem dX10_addThree_34 : decode cX10_addThree 34 = .ok (.iconst 2, 1) := by decide +kernel
theorem dX10_addThree_35 : decode cX10_addThree 35 = .ok (.iadd, 1) := by decide +kernel
theorem dX10_addThree_36 : decode cX10_addThree 36 = .ok (.iload 4, 2) := by decide +kernel
theorem dX10_addThree_38 : decode cX10_addThree 38 = .ok (.iastore, 1) := by decide +kernel
theorem dX10_addThree_39 : decode cX10_addThree 39 = .ok (.return_, 1) := by decide +kernel
theorem dJ6_bitCount_0f7a4_0 : decode cJ6_bitCount_0f7a4 0 = .ok (.iload_n 0, 1) := by decide +kernel
theorem dJ6_bitCount_0f7a4_1 : decode cJ6_bitCount_0f7a4 1 = .ok (.iload_n 0, 1) := by decide +kernel
theorem dJ6_bitCount_0f7a4_2 : decode cJ6_bitCount_0f7a4 2 = .ok (.iconst 1, 1) := by decide +kernel
theorem dJ6_bitCount_0f7a4_3 : decode cJ6_bitCount_0f7a4 3 = .ok (.iushr, 1) := by decide +kernel
theorem dJ6_bitCount_0f7a4_4 : decode cJ6_bitCount_0f7a4 4 = .ok (.ldc_w 265, 3) := by decide +kernel
theorem dJ6_bitCount_0f7a4_7 : decode cJ6_bitCount_0f7a4 7 = .ok (.iand, 1) := by decide +kernel
theorem dJ6_bitCount_0f7a4_8 : decode cJ6_bitCount_0f7a4 8 = .ok (.isub, 1) := by decide +kernel
theorem dJ6_bitCount_0f7a4_9 : decode cJ6_bitCount_0f7a4 9 = .ok (.istore_n 0, 1) := by decide +kernel
theorem dJ6_bitCount_0f7a4_10 : decode cJ6_bitCount_0f7a4 10 = .ok (.iload_n 0, 1) := by decide +kernel
theorem dJ6_bitCount_0f7a4_11 : decode cJ6_bitCount_0f7a4 11 = .ok (.ldc_w 266, 3) := by decide +kernel
theorem dJ6_bitCount_0f7a4_14 : decode cJ6_bitCount_0f7a4 14 = .ok (.iand, 1) := by decide +kernel
theorem dJ6_bitCount_0f7a4_15 : decode cJ6_bitCount_0f7a4 15 = .ok (.iload_n 0, 1) := by decide +kernel
theorem dJ6_bitCount_0f7a4_16 : decode cJ6_bitCount_0f7a4 16 = .ok (.iconst 2, 1) := by decide +kernel
theorem dJ6_bitCount_0f7a4_17 : decode cJ6_bitCount_0f7a4 17 = .ok (.iushr, 1) := by decide +kernel
theorem dJ6_bitCount_0f7a4_18 : decode cJ6_bitCount_0f7a4 18 = .ok (.ldc_w 266, 3) := by decide +kernel
theorem dJ6_bitCount_0f7a4_21 : decode cJ6_bitCount_0f7a4 21 = .ok (.iand, 1) := by decide +kernel
theorem dJ6_bitCount_0f7a4_22 : decode cJ6_bitCount_0f7a4 22 = .ok (.iadd, 1) := by decide +kernel
theorem dJ6_bitCount_0f7a4_23 : decode cJ6_bitCount_0f7a4 23 = .ok (.istore_n 0, 1) := by decide +kernel
theorem dJ6_bitCount_0f7a4_24 : decode cJ6_bitCount_0f7a4 24 = .ok (.iload_n 0, 1) := by decide +kernel
theorem dJ6_bitCount_0f7a4_25 : decode cJ6_bitCount_0f7a4 25 = .ok (.iload_n 0, 1) := by decide +kernel
theorem dJ6_bitCount_0f7a4_26 : decode cJ6_bitCount_0f7a4 26 = .ok (.iconst 4, 1) := by decide +kernel
theorem dJ6_bitCount_0f7a4_27 : decode cJ6_bitCount_0f7a4 27 = .ok (.iushr, 1) := by decide +kernel
theorem dJ6_bitCount_0f7a4_28 : decode cJ6_bitCount_0f7a4 28 = .ok (.iadd, 1) := by decide +kernel
theorem dJ6_bitCount_0f7a4_29 : decode cJ6_bitCount_0f7a4 29 = .ok (.ldc_w 267, 3) := by decide +kernel
theorem dJ6_bitCount_0f7a4_32 : decode cJ6_bitCount_0f7a4 32 = .ok (.iand, 1) := by decide +kernel
theorem dJ6_bitCount_0f7a4_33 : decode cJ6_bitCount_0f7a4 33 = .ok (.istore_n 0, 1) := by decide +kernel
theorem dJ6_bitCount_0f7a4_34 : decode cJ6_bitCount_0f7a4 34 = .ok (.iload_n 0, 1) := by decide +kernel
theorem dJ6_bitCount_0f7a4_35 : decode cJ6_bitCount_0f7a4 35 = .ok (.iload_n 0, 1) := by decide +kernel
theorem dJ6_bitCount_0f7a4_36 : decode cJ6_bitCount_0f7a4 36 = .ok (.bipush 8, 2) := by decide +kernel
theorem dJ6_bitCount_0f7a4_38 : decode cJ6_bitCount_0f7a4 38 = .ok (.iushr, 1) := by decide +kernel
theorem dJ6_bitCount_0f7a4_39 : decode cJ6_bitCount_0f7a4 39 = .ok (.iadd, 1) := by decide +kernel
theorem dJ6_bitCount_0f7a4_40 : decode cJ6_bitCount_0f7a4 40 = .ok (.istore_n 0, 1) := by decide +kernel
theorem dJ6_bitCount_0f7a4_41 : decode cJ6_bitCount_0f7a4 41 = .ok (.iload_n 0, 1) := by decide +kernel
theorem dJ6_bitCount_0f7a4_42 : decode cJ6_bitCount_0f7a4 42 = .ok (.iload_n 0, 1) := by decide +kernel
theorem dJ6_bitCount_0f7a4_43 : decode cJ6_bitCount_0f7a4 43 = .ok (.bipush 16, 2) := by decide +kernel
theorem dJ6_bitCount_0f7a4_45 : decode cJ6_bitCount_0f7a4 45 = .ok (.iushr, 1) := by decide +kernel
theorem dJ6_bitCount_0f7a4_46 : decode cJ6_bitCount_0f7a4 46 = .ok (.iadd, 1) := by decide +kernel
theorem dJ6_bitCount_0f7a4_47 : decode cJ6_bitCount_0f7a4 47 = .ok (.istore_n 0, 1) := by decide +kernel
theorem dJ6_bitCount_0f7a4_48 : decode cJ6_bitCount_0f7a4 48 = .ok (.iload_n 0, 1) := by decide +kernel
theorem dJ6_bitCount_0f7a4_49 : decode cJ6_bitCount_0f7a4 49 = .ok (.bipush 63, 2) := by decide +kernel
theorem dJ6_bitCount_0f7a4_51 : decode cJ6_bitCount_0f7a4 51 = .ok (.iand, 1) := by decide +kernel
theorem dJ6_bitCount_0f7a4_52 : decode cJ6_bitCount_0f7a4 52 = .ok (.ireturn, 1) := by decide +kernel
theorem dJ9_abs_0f7a4_0 : decode cJ9_abs_0f7a4 0 = .ok (.iload_n 0, 1) := by decide +kernel
theorem dJ9_abs_0f7a4_1 : decode cJ9_abs_0f7a4 1 = .ok (.ifCond .ge 8, 3) := by decide +kernel
theorem dJ9_abs_0f7a4_4 : decode cJ9_abs_0f7a4 4 = .ok (.iload_n 0, 1) := by decide +kernel
theorem dJ9_abs_0f7a4_5 : decode cJ9_abs_0f7a4 5 = .ok (.ineg, 1) := by decide +kernel
theorem dJ9_abs_0f7a4_6 : decode cJ9_abs_0f7a4 6 = .ok (.goto 4, 3) := by decide +kernel
theorem dJ9_abs_0f7a4_9 : decode cJ9_abs_0f7a4 9 = .ok (.iload_n 0, 1) := by decide +kernel
theorem dJ9_abs_0f7a4_10 : decode cJ9_abs_0f7a4 10 = .ok (.ireturn, 1) := by decide +kernel
theorem dJ9_max_7cf53_0 : decode cJ9_max_7cf53 0 = .ok (.iload_n 0, 1) := by decide +kernel
theorem dJ9_max_7cf53_1 : decode cJ9_max_7cf53 1 = .ok (.iload_n 1, 1) := by decide +kernel
theorem dJ9_max_7cf53_2 : decode cJ9_max_7cf53 2 = .ok (.if_icmp .lt 7, 3) := by decide +kernel
theorem dJ9_max_7cf53_5 : decode cJ9_max_7cf53 5 = .ok (.iload_n 0, 1) := by decide +kernel
theorem dJ9_max_7cf53_6 : decode cJ9_max_7cf53 6 = .ok (.goto 4, 3) := by decide +kernel
theorem dJ9_max_7cf53_9 : decode cJ9_max_7cf53 9 = .ok (.iload_n 1, 1) := by decide +kernel
theorem dJ9_max_7cf53_10 : decode cJ9_max_7cf53 10 = .ok (.ireturn, 1) := by decide +kernel
theorem dJ9_min_7cf53_0 : decode cJ9_min_7cf53 0 = .ok (.iload_n 0, 1) := by decide +kernel
theorem dJ9_min_7cf53_1 : decode cJ9_min_7cf53 1 = .ok (.iload_n 1, 1) := by decide +kernel
theorem dJ9_min_7cf53_2 : decode cJ9_min_7cf53 2 = .ok (.if_icmp .gt 7, 3) := by decide +kernel
theorem dJ9_min_7cf53_5 : decode cJ9_min_7cf53 5 = .ok (.iload_n 0, 1) := by decide +kernel
theorem dJ9_min_7cf53_6 : decode cJ9_min_7cf53 6 = .ok (.goto 4, 3) := by decide +kernel
theorem dJ9_min_7cf53_9 : decode cJ9_min_7cf53 9 = .ok (.iload_n 1, 1) := by decide +kernel
theorem dJ9_min_7cf53_10 : decode cJ9_min_7cf53 10 = .ok (.ireturn, 1) := by decide +kernel
theorem dJ9_min_f86c9_0 : decode cJ9_min_f86c9 0 = .ok (.lload_n 0, 1) := by decide +kernel
theorem dJ9_min_f86c9_1 : decode cJ9_min_f86c9 1 = .ok (.lload_n 2, 1) := by decide +kernel
theorem dJ9_min_f86c9_2 : decode cJ9_min_f86c9 2 = .ok (.lcmp, 1) := by decide +kernel
theorem dJ9_min_f86c9_3 : decode cJ9_min_f86c9 3 = .ok (.ifCond .gt 7, 3) := by decide +kernel
theorem dJ9_min_f86c9_6 : decode cJ9_min_f86c9 6 = .ok (.lload_n 0, 1) := by decide +kernel
theorem dJ9_min_f86c9_7 : decode cJ9_min_f86c9 7 = .ok (.goto 4, 3) := by decide +kernel
theorem dJ9_min_f86c9_10 : decode cJ9_min_f86c9 10 = .ok (.lload_n 2, 1) := by decide +kernel
theorem dJ9_min_f86c9_11 : decode cJ9_min_f86c9 11 = .ok (.lreturn, 1) := by decide +kernel
theorem dJ0_length_8abf5_0 : decode cJ0_length_8abf5 0 = .ok (.aload_n 0, 1) := by decide +kernel
theorem dJ0_length_8abf5_1 : decode cJ0_length_8abf5 1 = .ok (.getfield 9, 3) := by decide +kernel
theorem dJ0_length_8abf5_4 : decode cJ0_length_8abf5 4 = .ok (.arraylength, 1) := by decide +kernel
theorem dJ0_length_8abf5_5 : decode cJ0_length_8abf5 5 = .ok (.aload_n 0, 1) := by decide +kernel
theorem dJ0_length_8abf5_6 : decode cJ0_length_8abf5 6 = .ok (.invokevirtual 335, 3) := by decide +kernel
theorem dJ0_length_8abf5_9 : decode cJ0_length_8abf5 9 = .ok (.ishr, 1) := by decide +kernel
theorem dJ0_length_8abf5_10 : decode cJ0_length_8abf5 10 = .ok (.ireturn, 1) := by decide +kernel
theorem dJ0_charAt_5068e_0 : decode cJ0_charAt_5068e 0 = .ok (.aload_n 0, 1) := by decide +kernel
theorem dJ0_charAt_5068e_1 : decode cJ0_charAt_5068e 1 = .ok (.invokevirtual 492, 3) := by decide +kernel
theorem dJ0_charAt_5068e_4 : decode cJ0_charAt_5068e 4 = .ok (.ifCond .eq 12, 3) := by decide +kernel
theorem dJ0_charAt_5068e_7 : decode cJ0_charAt_5068e 7 = .ok (.aload_n 0, 1) := by decide +kernel
theorem dJ0_charAt_5068e_8 : decode cJ0_charAt_5068e 8 = .ok (.getfield 9, 3) := by decide +kernel
theorem dJ0_charAt_5068e_11 : decode cJ0_charAt_5068e 11 = .ok (.iload_n 1, 1) := by decide +kernel
theorem dJ0_charAt_5068e_12 : decode cJ0_charAt_5068e 12 = .ok (.invokestatic 495, 3) := by decide +kernel
theorem dJ0_charAt_5068e_15 : decode cJ0_charAt_5068e 15 = .ok (.ireturn, 1) := by decide +kernel
theorem dJ0_charAt_5068e_16 : decode cJ0_charAt_5068e 16 = .ok (.aload_n 0, 1) := by decide +kernel
theorem dJ0_charAt_5068e_17 : decode cJ0_charAt_5068e 17 = .ok (.getfield 9, 3) := by decide +kernel
theorem dJ0_charAt_5068e_20 : decode cJ0_charAt_5068e 20 = .ok (.iload_n 1, 1) := by decide +kernel
theorem dJ0_charAt_5068e_21 : decode cJ0_charAt_5068e 21 = .ok (.invokestatic 498, 3) := by decide +kernel
theorem dJ0_charAt_5068e_24 : decode cJ0_charAt_5068e 24 = .ok (.ireturn, 1) := by decide +kernel
theorem dJ0_coder_7d493_0 : decode cJ0_coder_7d493 0 = .ok (.getstatic 38, 3) := by decide +kernel
theorem dJ0_coder_7d493_3 : decode cJ0_coder_7d493 3 = .ok (.ifCond .eq 10, 3) := by decide +kernel
theorem dJ0_coder_7d493_6 : decode cJ0_coder_7d493 6 = .ok (.aload_n 0, 1) := by decide +kernel
theorem dJ0_coder_7d493_7 : decode cJ0_coder_7d493 7 = .ok (.getfield 15, 3) := by decide +kernel
theorem dJ0_coder_7d493_10 : decode cJ0_coder_7d493 10 = .ok (.goto 4, 3) := by decide +kernel
theorem dJ0_coder_7d493_13 : decode cJ0_coder_7d493 13 = .ok (.iconst 1, 1) := by decide +kernel
theorem dJ0_coder_7d493_14 : decode cJ0_coder_7d493 14 = .ok (.ireturn, 1) := by decide +kernel
theorem dJ0_isLatin1_aae02_0 : decode cJ0_isLatin1_aae02 0 = .ok (.getstatic 38, 3) := by decide +kernel
theorem dJ0_isLatin1_aae02_3 : decode cJ0_isLatin1_aae02 3 = .ok (.ifCond .eq 14, 3) := by decide +kernel
theorem dJ0_isLatin1_aae02_6 : decode cJ0_isLatin1_aae02 6 = .ok (.aload_n 0, 1) := by decide +kernel
theorem dJ0_isLatin1_aae02_7 : decode cJ0_isLatin1_aae02 7 = .ok (.getfield 15, 3) := by decide +kernel
theorem dJ0_isLatin1_aae02_10 : decode cJ0_isLatin1_aae02 10 = .ok (.ifCond .ne 7, 3) := by decide +kernel
theorem dJ0_isLatin1_aae02_13 : decode cJ0_isLatin1_aae02 13 = .ok (.iconst 1, 1) := by decide +kernel
theorem dJ0_isLatin1_aae02_14 : decode cJ0_isLatin1_aae02 14 = .ok (.goto 4, 3) := by decide +kernel
theorem dJ0_isLatin1_aae02_17 : decode cJ0_isLatin1_aae02 17 = .ok (.iconst 0, 1) := by decide +kernel
theorem dJ0_isLatin1_aae02_18 : decode cJ0_isLatin1_aae02 18 = .ok (.ireturn, 1) := by decide +kernel
theorem dJ0_checkIndex_df160_0 : decode cJ0_checkIndex_df160 0 = .ok (.iload_n 0, 1) := by decide +kernel
theorem dJ0_checkIndex_df160_1 : decode cJ0_checkIndex_df160 1 = .ok (.iload_n 1, 1) := by decide +kernel
theorem dJ0_checkIndex_df160_2 : decode cJ0_checkIndex_df160 2 = .ok (.getstatic 1053, 3) := by decide +kernel
theorem dJ0_checkIndex_df160_5 : decode cJ0_checkIndex_df160 5 = .ok (.invokestatic 1059, 3) := by decide +kernel
theorem dJ0_checkIndex_df160_8 : decode cJ0_checkIndex_df160 8 = .ok (.pop, 1) := by decide +kernel
theorem dJ0_checkIndex_df160_9 : decode cJ0_checkIndex_df160 9 = .ok (.return_, 1) := by decide +kernel
theorem dJ1_charAt_3b067_0 : decode cJ1_charAt_3b067 0 = .ok (.iload_n 1, 1) := by decide +kernel
theorem dJ1_charAt_3b067_1 : decode cJ1_charAt_3b067 1 = .ok (.aload_n 0, 1) := by decide +kernel
theorem dJ1_charAt_3b067_2 : decode cJ1_charAt_3b067 2 = .ok (.arraylength, 1) := by decide +kernel
theorem dJ1_charAt_3b067_3 : decode cJ1_charAt_3b067 3 = .ok (.invokestatic 9, 3) := by decide +kernel
theorem dJ1_charAt_3b067_6 : decode cJ1_charAt_3b067 6 = .ok (.aload_n 0, 1) := by decide +kernel
theorem dJ1_charAt_3b067_7 : decode cJ1_charAt_3b067 7 = .ok (.iload_n 1, 1) := by decide +kernel
theorem dJ1_charAt_3b067_8 : decode cJ1_charAt_3b067 8 = .ok (.baload, 1) := by decide +kernel
theorem dJ1_charAt_3b067_9 : decode cJ1_charAt_3b067 9 = .ok (.sipush 255, 3) := by decide +kernel
theorem dJ1_charAt_3b067_12 : decode cJ1_charAt_3b067 12 = .ok (.iand, 1) := by decide +kernel
theorem dJ1_charAt_3b067_13 : decode cJ1_charAt_3b067 13 = .ok (.i2c, 1) := by decide +kernel
theorem dJ1_charAt_3b067_14 : decode cJ1_charAt_3b067 14 = .ok (.ireturn, 1) := by decide +kernel
theorem dJ2_getChar_3b067_0 : decode cJ2_getChar_3b067 0 = .ok (.getstatic 44, 3) := by decide +kernel
theorem dJ2_getChar_3b067_3 : decode cJ2_getChar_3b067 3 = .ok (.ifCond .ne 25, 3) := by decide +kernel
theorem dJ2_getChar_3b067_6 : decode cJ2_getChar_3b067 6 = .ok (.iload_n 1, 1) := by decide +kernel
theorem dJ2_getChar_3b067_7 : decode cJ2_getChar_3b067 7 = .ok (.ifCond .lt 11, 3) := by decide +kernel
theorem dJ2_getChar_3b067_10 : decode cJ2_getChar_3b067 10 = .ok (.iload_n 1, 1) := by decide +kernel
theorem dJ2_getChar_3b067_11 : decode cJ2_getChar_3b067 11 = .ok (.aload_n 0, 1) := by decide +kernel
theorem dJ2_getChar_3b067_12 : decode cJ2_getChar_3b067 12 = .ok (.invokestatic 48, 3) := by decide +kernel
theorem dJ2_getChar_3b067_15 : decode cJ2_getChar_3b067 15 = .ok (.if_icmp .lt 13, 3) := by decide +kernel
theorem dJ2_getChar_3b067_18 : decode cJ2_getChar_3b067 18 = .ok (.new 52, 3) := by decide +kernel
theorem dJ2_getChar_3b067_21 : decode cJ2_getChar_3b067 21 = .ok (.dup, 1) := by decide +kernel
theorem dJ2_getChar_3b067_22 : decode cJ2_getChar_3b067 22 = .ok (.ldc 54, 2) := by decide +kernel
theorem dJ2_getChar_3b067_24 : decode cJ2_getChar_3b067 24 = .ok (.invokespecial 56, 3) := by decide +kernel
theorem dJ2_getChar_3b067_27 : decode cJ2_getChar_3b067 27 = .ok (.athrow, 1) := by decide +kernel
theorem dJ2_getChar_3b067_28 : decode cJ2_getChar_3b067 28 = .ok (.iload_n 1, 1) := by decide +kernel
theorem dJ2_getChar_3b067_29 : decode cJ2_getChar_3b067 29 = .ok (.iconst 1, 1) := by decide +kernel
theorem dJ2_getChar_3b067_30 : decode cJ2_getChar_3b067 30 = .ok (.ishl, 1) := by decide +kernel
theorem dJ2_getChar_3b067_31 : decode cJ2_getChar_3b067 31 = .ok (.istore_n 1, 1) := by decide +kernel
theorem dJ2_getChar_3b067_32 : decode cJ2_getChar_3b067 32 = .ok (.aload_n 0, 1) := by decide +kernel
theorem dJ2_getChar_3b067_33 : decode cJ2_getChar_3b067 33 = .ok (.iload_n 1, 1) := by decide +kernel
theorem dJ2_getChar_3b067_34 : decode cJ2_getChar_3b067 34 = .ok (.iinc 1 1, 3) := by decide +kernel
theorem dJ2_getChar_3b067_37 : decode cJ2_getChar_3b067 37 = .ok (.baload, 1) := by decide +kernel
theorem dJ2_getChar_3b067_38 : decode cJ2_getChar_3b067 38 = .ok (.sipush 255, 3) := by decide +kernel
theorem dJ2_getChar_3b067_41 : decode cJ2_getChar_3b067 41 = .ok (.iand, 1) := by decide +kernel
theorem dJ2_getChar_3b067_42 : decode cJ2_getChar_3b067 42 = .ok (.getstatic 59, 3) := by decide +kernel
theorem dJ2_getChar_3b067_45 : decode cJ2_getChar_3b067 45 = .ok (.ishl, 1) := by decide +kernel
theorem dJ2_getChar_3b067_46 : decode cJ2_getChar_3b067 46 = .ok (.aload_n 0, 1) := by decide +kernel
theorem dJ2_getChar_3b067_47 : decode cJ2_getChar_3b067 47 = .ok (.iload_n 1, 1) := by decide +kernel
theorem dJ2_getChar_3b067_48 : decode cJ2_getChar_3b067 48 = .ok (.baload, 1) := by decide +kernel
theorem dJ2_getChar_3b067_49 : decode cJ2_getChar_3b067 49 = .ok (.sipush 255, 3) := by decide +kernel
theorem dJ2_getChar_3b067_52 : decode cJ2_getChar_3b067 52 = .ok (.iand, 1) := by decide +kernel
theorem dJ2_getChar_3b067_53 : decode cJ2_getChar_3b067 53 = .ok (.getstatic 63, 3) := by decide +kernel
theorem dJ2_getChar_3b067_56 : decode cJ2_getChar_3b067 56 = .ok (.ishl, 1) := by decide +kernel
theorem dJ2_getChar_3b067_57 : decode cJ2_getChar_3b067 57 = .ok (.ior, 1) := by decide +kernel
theorem dJ2_getChar_3b067_58 : decode cJ2_getChar_3b067 58 = .ok (.i2c, 1) := by decide +kernel
theorem dJ2_getChar_3b067_59 : decode cJ2_getChar_3b067 59 = .ok (.ireturn, 1) := by decide +kernel
theorem dJ2_length_9d52b_0 : decode cJ2_length_9d52b 0 = .ok (.aload_n 0, 1) := by decide +kernel
theorem dJ2_length_9d52b_1 : decode cJ2_length_9d52b 1 = .ok (.arraylength, 1) := by decide +kernel
theorem dJ2_length_9d52b_2 : decode cJ2_length_9d52b 2 = .ok (.iconst 1, 1) := by decide +kernel
theorem dJ2_length_9d52b_3 : decode cJ2_length_9d52b 3 = .ok (.ishr, 1) := by decide +kernel
theorem dJ2_length_9d52b_4 : decode cJ2_length_9d52b 4 = .ok (.ireturn, 1) := by decide +kernel
theorem dJ2_charAt_3b067_0 : decode cJ2_charAt_3b067 0 = .ok (.iload_n 1, 1) := by decide +kernel
theorem dJ2_charAt_3b067_1 : decode cJ2_charAt_3b067 1 = .ok (.aload_n 0, 1) := by decide +kernel
theorem dJ2_charAt_3b067_2 : decode cJ2_charAt_3b067 2 = .ok (.invokestatic 67, 3) := by decide +kernel
theorem dJ2_charAt_3b067_5 : decode cJ2_charAt_3b067 5 = .ok (.aload_n 0, 1) := by decide +kernel
theorem dJ2_charAt_3b067_6 : decode cJ2_charAt_3b067 6 = .ok (.iload_n 1, 1) := by decide +kernel
theorem dJ2_charAt_3b067_7 : decode cJ2_charAt_3b067 7 = .ok (.invokestatic 71, 3) := by decide +kernel
theorem dJ2_charAt_3b067_10 : decode cJ2_charAt_3b067 10 = .ok (.ireturn, 1) := by decide +kernel
theorem dJ2_checkIndex_2214a_0 : decode cJ2_checkIndex_2214a 0 = .ok (.iload_n 0, 1) := by decide +kernel
theorem dJ2_checkIndex_2214a_1 : decode cJ2_checkIndex_2214a 1 = .ok (.aload_n 1, 1) := by decide +kernel
theorem dJ2_checkIndex_2214a_2 : decode cJ2_checkIndex_2214a 2 = .ok (.invokestatic 48, 3) := by decide +kernel
theorem dJ2_checkIndex_2214a_5 : decode cJ2_checkIndex_2214a 5 = .ok (.invokestatic 414, 3) := by decide +kernel
theorem dJ2_checkIndex_2214a_8 : decode cJ2_checkIndex_2214a 8 = .ok (.return_, 1) := by decide +kernel
theorem dJ3_checkIndex_8e157_0 : decode cJ3_checkIndex_8e157 0 = .ok (.iload_n 0, 1) := by decide +kernel
theorem dJ3_checkIndex_8e157_1 : decode cJ3_checkIndex_8e157 1 = .ok (.ifCond .lt 8, 3) := by decide +kernel
theorem dJ3_checkIndex_8e157_4 : decode cJ3_checkIndex_8e157 4 = .ok (.iload_n 0, 1) := by decide +kernel
theorem dJ3_checkIndex_8e157_5 : decode cJ3_checkIndex_8e157 5 = .ok (.iload_n 1, 1) := by decide +kernel
theorem dJ3_checkIndex_8e157_6 : decode cJ3_checkIndex_8e157 6 = .ok (.if_icmp .lt 10, 3) := by decide +kernel
theorem dJ3_checkIndex_8e157_9 : decode cJ3_checkIndex_8e157 9 = .ok (.aload_n 2, 1) := by decide +kernel
theorem dJ3_checkIndex_8e157_10 : decode cJ3_checkIndex_8e157 10 = .ok (.iload_n 0, 1) := by decide +kernel
theorem dJ3_checkIndex_8e157_11 : decode cJ3_checkIndex_8e157 11 = .ok (.iload_n 1, 1) := by decide +kernel
theorem dJ3_checkIndex_8e157_12 : decode cJ3_checkIndex_8e157 12 = .ok (.invokestatic 95, 3) := by decide +kernel
theorem dJ3_checkIndex_8e157_15 : decode cJ3_checkIndex_8e157 15 = .ok (.athrow, 1) := by decide +kernel
theorem dJ3_checkIndex_8e157_16 : decode cJ3_checkIndex_8e157 16 = .ok (.iload_n 0, 1) := by decide +kernel
theorem dJ3_checkIndex_8e157_17 : decode cJ3_checkIndex_8e157 17 = .ok (.ireturn, 1) := by decide +kernel
